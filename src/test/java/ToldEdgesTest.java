/** The boundaries that promises 17 to 26 and their terms name: told orders, kinship, chains, walks. */
final class ToldEdgesTest {
    private static final Check CHECK = new Check("ToldEdgesTest");
    private static final int NONE = FindOrder.NONE;
    private static final int BAD = FindOrder.BAD;
    private static final int LEAST = Integer.MIN_VALUE;
    private static final int GREATEST = Integer.MAX_VALUE;
    private static final String ALIKE = "0:;0:;0:;0:;0:;0:;0:";
    private static final String RING = "0:a,b;0:b,c;0:c,a";
    private static final String FAR = "0:a,b,c,d,e,f,g,h;0:;0:;0:;0:;0:;0:a,b,c,d,e,f,g,h";

    public static void main(String[] args) {
        noOrderOfNobody();
        noOrderOfOne();
        noOrderOfThree();
        noOrderOfSeven();
        swapRefuses();
        swapAndTurnedAtTheEnds();
        gapsOfNoneAndMost();
        runsOfNoneAndAll();
        kinshipOfNoneAndMost();
        kinOfFewAndMost();
        sharedRefuses();
        chainRefuses();
        chainByAgeThenNumber();
        walkRefuses();
        walkOfLikeOnes();
        rankFromNoneToAll();
        CHECK.end();
    }

    /** Each call that takes an ORDER, of one that is none. */
    private static void refused(FindOrder x, int order) {
        CHECK.due("17: " + order + " is no ORDER, gaps", x.gaps(order), BAD);
        CHECK.due("18: " + order + " is no ORDER, runs", x.runs(order), BAD);
        CHECK.due("19: " + order + " is no ORDER, kinship", x.kinship(order), BAD);
        CHECK.due("24: " + order + " is no ORDER, turned", x.turned(order), BAD);
        CHECK.due("25: " + order + " is no ORDER, rank", x.rank(order), BAD);
        CHECK.due("26: " + order + " is no ORDER, swap", x.swap(order, 0, 0), BAD);
        CHECK.due("26: BAD is named ahead of NONE, " + order, x.swap(order, -1, 7), BAD);
    }

    private static void noOrderOfNobody() {
        FindOrder x = new FindOrder();
        int[] wrong = {LEAST, -1, 1, 10, 12, GREATEST};
        for (int order : wrong) {
            refused(x, order);
        }
        CHECK.due("17: nobody is the ORDER 0", x.gaps(0), 0);
        CHECK.due("18: nobody is the ORDER 0", x.runs(0), 0);
        CHECK.due("19: nobody is the ORDER 0", x.kinship(0), 0);
        CHECK.due("24: nobody is the ORDER 0", x.turned(0), 0);
        CHECK.due("25: nobody is the ORDER 0", x.rank(0), 0);
        CHECK.due("26: nobody can be swapped", x.swap(0, 0, 0), NONE);
    }

    private static void noOrderOfOne() {
        FindOrder x = Check.told("0:a");
        int[] wrong = {LEAST, -1, 0, 2, 10, 11, 12, 21, GREATEST};
        for (int order : wrong) {
            refused(x, order);
        }
        CHECK.due("17: one", x.gaps(1), 0);
        CHECK.due("18: one", x.runs(1), 1);
        CHECK.due("19: one", x.kinship(1), 0);
        CHECK.due("24: one", x.turned(1), 1);
        CHECK.due("25: one", x.rank(1), 0);
        CHECK.due("26: one", x.swap(1, 0, 0), 1);
    }

    private static void noOrderOfThree() {
        FindOrder x = Check.told("0:a;0:b;0:a,b");
        int[] wrong = {LEAST, -123, -1, 0, 1, 12, 21, 23, 111, 112, 122, 120, 230, 124, 234, 129, 321 + 1,
            1123, 1230, 1231, 1234, 4123, 10123, 123123, 1000000123, 2000000321, GREATEST};
        for (int order : wrong) {
            refused(x, order);
        }
        int[] right = {123, 132, 213, 231, 312, 321};
        int[] gaps = {1, 0, 1, 0, 1, 1};
        for (int i = 0; i < right.length; i++) {
            CHECK.due("17: an ORDER, " + right[i], x.gaps(right[i]), gaps[i]);
        }
    }

    private static void noOrderOfSeven() {
        FindOrder x = Check.told(ALIKE);
        int[] wrong = {LEAST, -1234567, 0, 123456, 234567, 1234566, 1234568, 1234560, 1123456, 7654320, 7654322,
            8234567, 12345678, 71234567, 1001234567, 2007654321, GREATEST};
        for (int order : wrong) {
            refused(x, order);
        }
        CHECK.due("17: the least ORDER", x.gaps(1234567), 0);
        CHECK.due("17: the greatest ORDER", x.gaps(7654321), 0);
        CHECK.due("24: the least ORDER", x.turned(1234567), 7654321);
        CHECK.due("24: the greatest ORDER", x.turned(7654321), 1234567);
        CHECK.due("25: the least ORDER", x.rank(1234567), 0);
        CHECK.due("25: the greatest ORDER", x.rank(7654321), 5039);
    }

    private static void swapRefuses() {
        FindOrder x = Check.told("0:;0:;0:");
        int[] noGraves = {LEAST, -1, 3, 7, GREATEST};
        for (int g : noGraves) {
            CHECK.due("26: no a " + g, x.swap(123, g, 0), NONE);
            CHECK.due("26: no b " + g, x.swap(123, 0, g), NONE);
            CHECK.due("26: neither " + g, x.swap(123, g, g), NONE);
        }
    }

    private static void swapAndTurnedAtTheEnds() {
        FindOrder x = Check.told("0:;0:;0:");
        CHECK.due("26: the first and the last", x.swap(312, 2, 1), 213);
        CHECK.due("26: told the other way", x.swap(312, 1, 2), 213);
        CHECK.due("26: GRAVES, not places", x.swap(312, 0, 1), 321);
        CHECK.due("26: one with itself", x.swap(312, 2, 2), 312);
        FindOrder two = Check.told("0:;0:");
        CHECK.due("24: of two", two.turned(12), 21);
        CHECK.due("26: of two", two.swap(21, 0, 1), 12);
        FindOrder all = Check.told(ALIKE);
        CHECK.due("26: of seven", all.swap(1234567, 0, 6), 7234561);
        CHECK.due("24: of seven", all.turned(7234561), 1654327);
    }

    private static void gapsOfNoneAndMost() {
        FindOrder x = Check.told(FAR);
        CHECK.due("17: the most GAPS that there can be", x.gaps(1234567), 40);
        CHECK.due("17: told from the other end", x.gaps(7654321), 40);
        CHECK.due("17: one GRAVE between is no GAP outside", x.gaps(2134576), 24);
        CHECK.due("17: none between", x.gaps(2345671), 0);
        FindOrder two = Check.told("0:a;0:;0:a;0:;0:a;0:;0:a");
        CHECK.due("17: three between four", two.gaps(1234567), 3);
        CHECK.due("17: all three between the first two", two.gaps(1246357), 3);
        CHECK.due("17: at either end none", two.gaps(2135746), 0);
    }

    private static void runsOfNoneAndAll() {
        FindOrder x = Check.told(FAR);
        CHECK.due("18: none of eight RUNS", x.runs(1234567), 0);
        CHECK.due("18: by one GRAVE between", x.runs(1273456), 0);
        CHECK.due("18: all eight RUN", x.runs(1723456), 255);
        x.has(0, 7, 0);
        CHECK.due("18: the last of eight RUNS alone", x.runs(1234567), 128);
        x.drop(6);
        CHECK.due("18: TYPES of one GRAVE RUN", x.runs(123456), 255);
    }

    private static void kinshipOfNoneAndMost() {
        FindOrder x = Check.told("0:a,b;0:a,b;0:a,b");
        CHECK.due("19: those that are next to each other alone", x.kinship(123), 4);
        x.has(1, 0, 0);
        x.has(1, 1, 0);
        CHECK.due("19: not over one between", x.kinship(123), 0);
        CHECK.due("19: at the end of the ORDER", x.kinship(213), 2);
        CHECK.due("19: at its beginning", x.kinship(132), 2);
        CHECK.due("19: a greatest", allOfAll().kinship(1234567), 48);
    }

    /** Seven graves that have all eight types. */
    private static FindOrder allOfAll() {
        FindOrder x = Check.told("0:a,b,c,d,e,f,g,h;0:;0:;0:;0:;0:;0:");
        for (int g = 1; g < 7; g++) {
            for (int t = 0; t < 8; t++) {
                x.has(g, t, 1);
            }
        }
        return x;
    }

    private static void kinOfFewAndMost() {
        FindOrder[] all = {new FindOrder(), Check.told("0:a"), Check.told("0:a;0:a"), Check.told(RING), allOfAll()};
        int[] wrong = {LEAST, -1, 2, GREATEST};
        for (FindOrder x : all) {
            for (int what : wrong) {
                CHECK.due("20: of " + x.count(0) + ", what " + what, x.kin(what), BAD);
            }
        }
        int[][] due = {{0, 0}, {0, 1}, {1, 12}, {2, 123}, {48, 1234567}};
        for (int i = 0; i < all.length; i++) {
            CHECK.due("20: the greatest of " + all[i].count(0), all[i].kin(0), due[i][0]);
            CHECK.due("20: the first of " + all[i].count(0), all[i].kin(1), due[i][1]);
        }
        CHECK.due("20: of like ones the lesser digits are first", Check.told("0:;0:a;0:a").kin(1), 123);
        CHECK.due("20: the last of the ORDER", Check.told("0:a;0:;0:a").kin(1), 132);
    }

    private static void sharedRefuses() {
        FindOrder x = allOfAll();
        x.drop(6);
        int[] noGraves = {LEAST, -1, 6, 7, GREATEST};
        for (int g : noGraves) {
            CHECK.due("21: no a " + g, x.shared(g, 0), NONE);
            CHECK.due("21: no b " + g, x.shared(0, g), NONE);
            CHECK.due("21: neither " + g, x.shared(g, g), NONE);
        }
        CHECK.due("21: all eight", x.shared(0, 5), 8);
        CHECK.due("21: with itself", x.shared(5, 5), 8);
        x.grave(0);
        CHECK.due("21: none", x.shared(0, 6), 0);
        CHECK.due("21: none with itself", x.shared(6, 6), 0);
    }

    private static void chainRefuses() {
        FindOrder x = Check.told("0:;0:");
        int[] noGraves = {LEAST, -1, 2, 7, GREATEST};
        for (int g : noGraves) {
            CHECK.due("22: no GRAVE " + g, x.chain(g), NONE);
            CHECK.due("22: nobody, " + g, new FindOrder().chain(g), NONE);
        }
        CHECK.due("22: nobody", new FindOrder().chain(0), NONE);
        CHECK.due("22: of one", Check.told("0:").chain(0), 1);
        CHECK.due("22: of two, from the first", x.chain(0), 12);
        CHECK.due("22: of two, from the last", x.chain(1), 21);
        CHECK.due("22: of seven, from the last", Check.told(ALIKE).chain(6), 7123456);
    }

    private static void chainByAgeThenNumber() {
        CHECK.due("22: of several the one with less AGE", Check.told("0:a;2:a;1:a").chain(0), 132);
        CHECK.due("22: then the lesser number", Check.told("0:a;1:a;1:a").chain(0), 123);
        CHECK.due("22: what shares most is ahead of less AGE", Check.told("5:a,b;0:a;999:a,b").chain(0), 132);
        CHECK.due("22: less AGE of those that share none", Check.told("5:;999:a;998:a").chain(0), 132);
        CHECK.due("22: with the last one, not with the first", Check.told("0:a,b,c;0:b,c;0:b;0:a,c").chain(1), 2143);
        CHECK.due("22: AGE as it is, not modulo 100", Check.told("0:;100:;99:").chain(0), 132);
        CHECK.due("22: one that is in it comes not again", Check.told("0:a,b,c;9:a,b,c;0:c").chain(0), 123);
    }

    private static void walkRefuses() {
        FindOrder x = Check.told("0:a;0:b");
        int[] wrong = {LEAST, -1, 4, GREATEST};
        for (int rule : wrong) {
            CHECK.due("23: RULE " + rule, x.walk(rule), BAD);
            CHECK.due("23: nobody, RULE " + rule, new FindOrder().walk(rule), BAD);
        }
        for (int rule = 0; rule <= 3; rule++) {
            CHECK.due("23: nobody, RULE " + rule, new FindOrder().walk(rule), 0);
            CHECK.due("23: one, RULE " + rule, Check.told("9:a").walk(rule), 1);
        }
    }

    private static void walkOfLikeOnes() {
        FindOrder like = Check.told("5:a;5:a;5:a;5:a;5:a;5:a;5:a");
        for (int rule = 0; rule <= 3; rule++) {
            CHECK.due("23: of like ones the lesser number first, RULE " + rule, like.walk(rule), 1234567);
        }
        CHECK.due("23: AGE, the least first", Check.told("999:;0:;1:;998:;0:").walk(0), 25341);
        CHECK.due("23: AGE as it is, not modulo 100", Check.told("100:;99:").walk(0), 21);
        CHECK.due("23: how many TYPES, the most first", Check.told("0:;0:h;0:a,b;0:h").walk(1), 3241);
        CHECK.due("23: many TYPES, whatever their bits", Check.told("0:a,b,c;-0d;0:d").walk(1), 12);
        CHECK.due("23: others, the most first", Check.told("0:;0:a,b,c,d;0:e;0:e;0:e").walk(2), 34512);
        CHECK.due("23: bits as a number, the least first", Check.told("0:a,b;0:c;0:b;0:;0:a").walk(3), 45312);
        CHECK.due("23: TYPE 7 is the greatest bit", Check.told("0:;0:a,b,c,d,e,f,g;0:h;+0h;-0h").walk(3), 123);
        FindOrder last = Check.told("0:a;-0b;-0c;-0d;-0e;-0f;-0g;+0h;-0a;0:a,b,c,d,e,f,g");
        CHECK.due("23: it is greater than all others together", last.walk(3), 21);
    }

    private static void rankFromNoneToAll() {
        FindOrder row = Check.told("0:a;0:a,b;0:b,c;0:c,d;0:d,e;0:e,f;0:f");
        CHECK.due("25: the first GAPLESS ORDER", row.rank(1234567), 0);
        CHECK.due("25: the one behind it, which is not GAPLESS", row.rank(1234576), 1);
        CHECK.due("25: the one ahead of the last", row.rank(7654312), 1);
        CHECK.due("25: the last GAPLESS ORDER", row.rank(7654321), 1);
        FindOrder far = Check.told(FAR);
        CHECK.due("25: ahead of all", far.rank(1234567), 0);
        CHECK.due("25: the first", far.rank(1723456), 0);
        CHECK.due("25: the last", far.rank(7165432), 1439);
        CHECK.due("25: behind all", far.rank(7654321), 1440);
        CHECK.due("25: there is no GAPLESS ORDER", Check.told(RING).rank(321), 0);
        FindOrder two = Check.told("0:;0:");
        CHECK.due("25: not itself", two.rank(12), 0);
        CHECK.due("25: the other one", two.rank(21), 1);
    }
}
