/** Promises 17 to 26: gaps, runs, kinship, kin, shared, chain, walk, turned, rank, swap. */
final class ToldOrdersTest {
    private static final Check CHECK = new Check("ToldOrdersTest");
    /** None of these is an order of four graves. */
    private static final int[] NO_ORDERS = {0, 1, 123, 1230, 1235, 1224, 12345, 1034, 11234, -1234, 51234,
        Integer.MAX_VALUE, Integer.MIN_VALUE};

    public static void main(String[] args) {
        wrongOrders();
        gapsAndRuns();
        kinship();
        shared();
        chain();
        walk();
        turnedAndSwap();
        rank();
        CHECK.end();
    }

    private static void wrongOrders() {
        FindOrder x = Check.told("0:a;0:b;0:a,b;0:");
        for (int order : NO_ORDERS) {
            CHECK.due("17: gaps(" + order + ")", x.gaps(order), FindOrder.BAD);
            CHECK.due("18: runs(" + order + ")", x.runs(order), FindOrder.BAD);
            CHECK.due("19: kinship(" + order + ")", x.kinship(order), FindOrder.BAD);
            CHECK.due("24: turned(" + order + ")", x.turned(order), FindOrder.BAD);
            CHECK.due("25: rank(" + order + ")", x.rank(order), FindOrder.BAD);
            CHECK.due("26: swap(" + order + ")", x.swap(order, 9, 9), FindOrder.BAD);
        }
        FindOrder nobody = new FindOrder();
        CHECK.due("17: nobody", nobody.gaps(0), 0);
        CHECK.due("17: nobody, no order", nobody.gaps(-1), FindOrder.BAD);
        CHECK.due("18: nobody", nobody.runs(0), 0);
        CHECK.due("19: nobody", nobody.kinship(0), 0);
        CHECK.due("24: nobody", nobody.turned(0), 0);
        CHECK.due("25: nobody", nobody.rank(0), 0);
        CHECK.due("26: nobody", nobody.swap(0, 0, 0), FindOrder.NONE);
    }

    private static void gapsAndRuns() {
        FindOrder x = Check.told("0:a,b;0:c;0:b;0:a,c");
        CHECK.due("17: gaps(1234)", x.gaps(1234), 2 + 1 + 1);
        CHECK.due("17: gaps(3142)", x.gaps(3142), 0);
        CHECK.due("17: gaps(1324)", x.gaps(1324), 2 + 0 + 0);
        CHECK.due("18: runs(1234)", x.runs(1234), 0);
        CHECK.due("18: runs(3142)", x.runs(3142), 7);
        CHECK.due("18: runs(1324)", x.runs(1324), 2 + 4);
        FindOrder y = Check.told("0:;0:a;0:a");
        CHECK.due("17: none before the first or behind the last", y.gaps(123), 0);
        Check.tell(y, "-0q");
        CHECK.due("18: a type without graves runs", y.runs(213), 2);
        Check.tell(y, "-1a;-2a");
        FindOrder z = Check.told("0:a;0:;0:a;0:;0:a");
        CHECK.due("17: two gaps of one type", z.gaps(12345), 2);
        z.drop(4);
        z.drop(3);
        z.drop(2);
        z.drop(1);
        z.drop(0);
        CHECK.due("18: nobody's types run", z.runs(0), 1);
    }

    private static void kinship() {
        FindOrder x = Check.told("0:a,b,c;0:d;0:a,b;0:c,d");
        CHECK.due("19: kinship(1234)", x.kinship(1234), 0);
        CHECK.due("19: kinship(3142)", x.kinship(3142), 2 + 1 + 1);
        CHECK.due("19: kinship(1324)", x.kinship(1324), 2 + 0 + 1);
        CHECK.due("20: greatest", x.kin(0), 4);
        CHECK.due("20: first", x.kin(1), 2413);
        CHECK.due("20: what 2", x.kin(2), FindOrder.BAD);
        CHECK.due("20: what -1", x.kin(-1), FindOrder.BAD);
        FindOrder bare = Check.told("0:;0:;0:a");
        CHECK.due("20: none", bare.kin(0), 0);
        CHECK.due("20: first of all", bare.kin(1), 123);
        CHECK.due("20: begins with 0", Check.told("0:a;0:;0:a;0:").kin(1), 1324);
        CHECK.due("20: lesser behind greater", Check.told("0:a,b,c;0:a;0:b;0:a,b,c").kin(1), 2143);
        CHECK.due("20: nobody", new FindOrder().kin(1), 0);
    }

    private static void shared() {
        FindOrder x = Check.told("0:a,b,c;0:d;0:a,c,d");
        CHECK.due("21: two", x.shared(0, 2), 2);
        CHECK.due("21: the other way", x.shared(2, 0), 2);
        CHECK.due("21: none", x.shared(0, 1), 0);
        CHECK.due("21: itself", x.shared(0, 0), 3);
        CHECK.due("21: no a", x.shared(3, 0), FindOrder.NONE);
        CHECK.due("21: no b", x.shared(0, -1), FindOrder.NONE);
    }

    private static void chain() {
        FindOrder x = Check.told("9:a,b;8:a;7:a;7:a,b,c;1:c;0:");
        // from 3: 0 shares two; from 0: 1 and 2 share one, 2 has less age; then 1; then none shares: 5, 4 by age
        CHECK.due("22: chain(3)", x.chain(3), 413265);
        CHECK.due("22: chain(4)", x.chain(4), 541326);
        CHECK.due("22: chain(5)", x.chain(5), 654132);
        CHECK.due("22: no grave 6", x.chain(6), FindOrder.NONE);
        CHECK.due("22: no grave -1", x.chain(-1), FindOrder.NONE);
        CHECK.due("22: lesser number", Check.told("5:;5:;5:").chain(1), 213);
        CHECK.due("22: nobody", new FindOrder().chain(0), FindOrder.NONE);
    }

    private static void walk() {
        FindOrder x = Check.told("7:a;5:b,c;5:a,c;0:");
        CHECK.due("23: age", x.walk(0), 4231);
        CHECK.due("23: types", x.walk(1), 2314);
        CHECK.due("23: others", x.walk(2), 3124);
        CHECK.due("23: bits", x.walk(3), 4132);
        CHECK.due("23: rule 4", x.walk(4), FindOrder.BAD);
        CHECK.due("23: rule -1", x.walk(-1), FindOrder.BAD);
        CHECK.due("23: nobody", new FindOrder().walk(3), 0);
        CHECK.due("23: nobody, rule 4", new FindOrder().walk(4), FindOrder.BAD);
        FindOrder like = Check.told("5:a;5:a;5:a");
        for (int rule = 0; rule < 4; rule++) {
            CHECK.due("23: like ones by " + rule, like.walk(rule), 123);
        }
    }

    private static void turnedAndSwap() {
        FindOrder x = Check.told("0:a;0:b;0:a,b;0:");
        CHECK.due("24: turned", x.turned(2413), 3142);
        CHECK.due("26: swap", x.swap(2413, 0, 3), 2143);
        CHECK.due("26: the other way", x.swap(2413, 3, 0), 2143);
        CHECK.due("26: itself", x.swap(2413, 1, 1), 2413);
        CHECK.due("26: no a", x.swap(2413, 4, 0), FindOrder.NONE);
        CHECK.due("26: no b", x.swap(2413, 0, -1), FindOrder.NONE);
    }

    private static void rank() {
        FindOrder x = Check.told("0:a;0:b;0:a,b;0:");
        // gapless: 1324 2314 4132 4231
        CHECK.due("25: first", x.rank(1324), 0);
        CHECK.due("25: ahead of all", x.rank(1234), 0);
        CHECK.due("25: between", x.rank(1342), 1);
        CHECK.due("25: second", x.rank(2314), 1);
        CHECK.due("25: third", x.rank(4132), 2);
        CHECK.due("25: last", x.rank(4231), 3);
        CHECK.due("25: behind all", x.rank(4321), 4);
        CHECK.due("25: grave 0 never first", Check.told("0:a,b;0:a;0:b").rank(312), 1);
        CHECK.due("25: none gapless", Check.told("0:a,b;0:b,c;0:c,a").rank(321), 0);
    }
}
