/** The boundaries that promises 8 to 16 and their terms name: orders, gapless, fewest, ends, the tree, spoils. */
final class OrderEdgesTest {
    private static final Check CHECK = new Check("OrderEdgesTest");
    private static final int NONE = FindOrder.NONE;
    private static final int BAD = FindOrder.BAD;
    private static final int NOT = FindOrder.NOT;
    private static final int STATE = FindOrder.STATE;
    private static final int LEAST = Integer.MIN_VALUE;
    private static final int GREATEST = Integer.MAX_VALUE;
    private static final String ALIKE = "0:;0:;0:;0:;0:;0:;0:";
    private static final String ROW = "0:a;0:a,b;0:b,c;0:c,d;0:d,e;0:e,f;0:f";
    private static final String RING = "0:a,b;0:b,c;0:c,a";
    private static final String TWO_RINGS = "0:a,b;0:b,c;0:c,a;0:d,e;0:e,f;0:f,d";
    private static final String STAR = "0:a;0:b;0:c;0:d;0:e;0:f;0:a,b,c,d,e,f";
    private static final String NEST = "0:a,b,c,d,e;0:a,b,c,d,e;0:b,c,d,e;0:c,d,e;0:d,e;0:e;0:";
    /** All eight types lie in the first and the last grave, and in none between. */
    private static final String FAR = "0:a,b,c,d,e,f,g,h;0:;0:;0:;0:;0:;0:a,b,c,d,e,f,g,h";

    public static void main(String[] args) {
        ordersRefuses();
        ordersByMost();
        aTypeThatCannotPart();
        gaplessRefuses();
        gaplessFirstAndLast();
        fewest();
        endsRefuse();
        endsOfOneTwoSeven();
        clusters();
        knotsRefuse();
        knotsOfFewAndMany();
        knotRefuses();
        knotOfOneAndTwo();
        knotsInTheirOrder();
        freeOrFixed();
        childrenAreNoGrandchildren();
        told();
        spoilsRefuses();
        spoilsAllOrOneOrNone();
        CHECK.end();
    }

    private static void ordersRefuses() {
        FindOrder[] all = {new FindOrder(), Check.told("0:a"), Check.told(RING), Check.told(ALIKE)};
        int[] wrong = {LEAST, -1, 61, GREATEST};
        for (FindOrder x : all) {
            for (int most : wrong) {
                CHECK.due("8: of " + x.count(0) + ", most " + most, x.orders(most), BAD);
            }
        }
        int[] many = {1, 1, 6, 5040};
        for (int i = 0; i < all.length; i++) {
            CHECK.due("8: of " + all[i].count(0) + ", most 60", all[i].orders(60), many[i]);
        }
        int[] none = {1, 1, 0, 5040};
        for (int i = 0; i < all.length; i++) {
            CHECK.due("8: of " + all[i].count(0) + ", most 0", all[i].orders(0), none[i]);
        }
    }

    private static void ordersByMost() {
        FindOrder x = Check.told(FAR);
        // by how many graves lie between the first and the last: 2 * (6 - between) * 5!
        int[] within = {1440, 2640, 3600, 4320, 4800, 5040};
        for (int most = 0; most <= 60; most++) {
            CHECK.due("8: GAPS of most " + most + ", or less", x.orders(most), within[Math.min(most / 8, 5)]);
        }
        FindOrder ring = Check.told(RING);
        CHECK.due("8: one GAP is not 0", ring.orders(0), 0);
        CHECK.due("8: of 1, or less", ring.orders(1), 6);
    }

    private static void aTypeThatCannotPart() {
        FindOrder x = Check.told("0:a,b;0:b;0:b;-0c");
        CHECK.due("8: a TYPE of one GRAVE, of all, of none makes no GAP", x.orders(0), 6);
        CHECK.due("17: a TYPE of one GRAVE, of all, of none has no GAP", x.gaps(231), 0);
        CHECK.due("18: a TYPE of one GRAVE, of all, of none RUNS", x.runs(231), 7);
        FindOrder two = Check.told("0:a;0:a");
        CHECK.due("17: two GRAVES have none between", two.gaps(21), 0);
        CHECK.due("18: and RUN", two.runs(21), 1);
        FindOrder outside = Check.told("0:;0:a;0:a;0:");
        CHECK.due("17: a GRAVE without it at either end lies between none", outside.gaps(1234), 0);
        CHECK.due("17: two between two", outside.gaps(2143), 2);
        CHECK.due("18: it does not RUN by them", outside.runs(2143), 0);
        CHECK.due("18: nor by one between", outside.runs(2134), 0);
    }

    private static void gaplessRefuses() {
        FindOrder x = Check.told("0:a;0:b;0:a,b");
        int[] wrong = {LEAST, -1, 2, 3, GREATEST};
        for (int i : wrong) {
            CHECK.due("9: no such number " + i, x.gapless(i), NONE);
            CHECK.due("9: there is no GAPLESS ORDER, " + i, Check.told(RING).gapless(i), NONE);
        }
        CHECK.due("9: number 0 of none", Check.told(RING).gapless(0), NONE);
        CHECK.due("9: nobody has one, -1", new FindOrder().gapless(-1), NONE);
        CHECK.due("9: nobody has one, 1", new FindOrder().gapless(1), NONE);
    }

    private static void gaplessFirstAndLast() {
        CHECK.due("9: nobody: 0", new FindOrder().gapless(0), 0);
        CHECK.due("9: of one", Check.told("0:a").gapless(0), 1);
        CHECK.due("9: of one, behind the last", Check.told("0:a").gapless(1), NONE);
        FindOrder two = Check.told("0:;0:");
        CHECK.due("9: the lesser digits are ahead", two.gapless(0), 12);
        CHECK.due("9: the greater behind", two.gapless(1), 21);
        CHECK.due("9: of two, behind the last", two.gapless(2), NONE);
        FindOrder all = Check.told(ALIKE);
        CHECK.due("9: of seven, the first", all.gapless(0), 1234567);
        CHECK.due("9: of seven, the last", all.gapless(5039), 7654321);
        CHECK.due("9: of seven, behind the last", all.gapless(5040), NONE);
        FindOrder far = Check.told(FAR);
        CHECK.due("9: GAPLESS, the first", far.gapless(0), 1723456);
        CHECK.due("9: GAPLESS, the last", far.gapless(1439), 7165432);
        CHECK.due("9: GAPLESS, behind the last", far.gapless(1440), NONE);
        FindOrder row = Check.told(ROW);
        CHECK.due("9: two of 5040, the first", row.gapless(0), 1234567);
        CHECK.due("9: two of 5040, the last", row.gapless(1), 7654321);
        CHECK.due("9: two of 5040, behind the last", row.gapless(2), NONE);
    }

    private static void fewest() {
        FindOrder[] all = {new FindOrder(), Check.told("0:a"), Check.told(RING), Check.told(ALIKE), Check.told(STAR)};
        int[] wrong = {LEAST, -1, 3, GREATEST};
        for (FindOrder x : all) {
            for (int what : wrong) {
                CHECK.due("10: of " + x.count(0) + ", what " + what, x.fewest(what), BAD);
            }
        }
        // two leaves lie next to the star's heart, two have one between, two have two
        int[][] due = {{0, 1, 0}, {0, 1, 1}, {1, 6, 123}, {0, 5040, 1234567}, {6, 720, 1237456}};
        for (int i = 0; i < all.length; i++) {
            for (int what = 0; what <= 2; what++) {
                CHECK.due("10: of " + all[i].count(0) + ", what " + what, all[i].fewest(what), due[i][what]);
            }
        }
    }

    private static void endsRefuse() {
        FindOrder x = Check.told(RING);
        int[] noGraves = {LEAST, -1, 3, 7, GREATEST};
        for (int g : noGraves) {
            CHECK.due("11: no first " + g, x.ends(g, 0, 0), NONE);
            CHECK.due("11: no last " + g, x.ends(0, g, 0), NONE);
            CHECK.due("11: NONE is named ahead of NOT, " + g, x.ends(g, g, 0), NONE);
            CHECK.due("11: NONE is named ahead of BAD, first " + g, x.ends(g, 0, 3), NONE);
            CHECK.due("11: NONE is named ahead of BAD, last " + g, x.ends(0, g, -1), NONE);
        }
        int[] wrong = {LEAST, -1, 3, GREATEST};
        for (int what : wrong) {
            CHECK.due("11: what " + what, x.ends(0, 2, what), BAD);
            CHECK.due("11: NOT is named ahead of BAD, " + what, x.ends(1, 1, what), NOT);
            CHECK.due("11: of one GRAVE, what " + what, Check.told("0:").ends(0, 0, what), BAD);
            CHECK.due("11: nobody, what " + what, new FindOrder().ends(0, 0, what), NONE);
        }
        for (int what = 0; what <= 2; what++) {
            CHECK.due("11: both the same, what " + what, x.ends(2, 2, what), NOT);
            CHECK.due("11: both the same of two, what " + what, Check.told("0:;0:").ends(0, 0, what), NOT);
            CHECK.due("11: nobody, what " + what, new FindOrder().ends(0, 0, what), NONE);
        }
    }

    private static void endsOfOneTwoSeven() {
        int[] one = {1, 0, 1};
        int[] two = {1, 0, 21};
        int[] all = {120, 0, 7234561};
        int[] far = {0, 40, 1234567};
        int[] near = {24, 0, 2345671};
        for (int what = 0; what <= 2; what++) {
            CHECK.due("11: of one, what " + what, Check.told("0:a").ends(0, 0, what), one[what]);
            CHECK.due("11: of two, what " + what, Check.told("0:a;0:a").ends(1, 0, what), two[what]);
            CHECK.due("11: of seven, what " + what, Check.told(ALIKE).ends(6, 0, what), all[what]);
            CHECK.due("11: none of them GAPLESS, what " + what, Check.told(FAR).ends(0, 6, what), far[what]);
            CHECK.due("11: first 1, last 0, what " + what, Check.told(FAR).ends(1, 0, what), near[what]);
        }
        FindOrder star = Check.told(STAR);
        CHECK.due("11: no GAPLESS ORDER at all, what 0", star.ends(6, 0, 0), 0);
        CHECK.due("11: no GAPLESS ORDER at all, what 1", star.ends(6, 0, 1), 1 + 2 + 3 + 4 + 5);
        CHECK.due("11: no GAPLESS ORDER at all, what 2", star.ends(6, 0, 2), 7234561);
    }

    private static void clusters() {
        CHECK.due("12: there is no GAPLESS ORDER", Check.told(RING).clusters(), STATE);
        CHECK.due("12: nobody: no set of one at least", new FindOrder().clusters(), 0);
        CHECK.due("12: one", Check.told("0:a").clusters(), 1);
        CHECK.due("12: two, and both together", Check.told("0:;0:").clusters(), 3);
        CHECK.due("12: seven, and all together", Check.told(ALIKE).clusters(), 8);
        CHECK.due("12: in a row of seven", Check.told(ROW).clusters(), 7 + 6 + 5 + 4 + 3 + 2 + 1);
        CHECK.due("12: the first and the last", Check.told(FAR).clusters(), 9);
        FindOrder x = Check.told(ROW);
        x.has(0, 5, 1);
        CHECK.due("12: STATE when the row is bent", x.clusters(), STATE);
        x.has(0, 5, 0);
        CHECK.due("12: and when it is straight again, none", x.clusters(), 28);
    }

    private static void knotsRefuse() {
        int[] wrong = {LEAST, -1, 3, GREATEST};
        for (int what : wrong) {
            CHECK.due("13: what " + what, Check.told(ROW).knots(what), BAD);
            CHECK.due("13: nobody, what " + what, new FindOrder().knots(what), BAD);
            CHECK.due("13: BAD is named ahead of STATE, " + what, Check.told(RING).knots(what), BAD);
        }
        for (int what = 0; what <= 2; what++) {
            CHECK.due("13: there is no GAPLESS ORDER, what " + what, Check.told(RING).knots(what), STATE);
        }
    }

    private static void knotsOfFewAndMany() {
        String[] texts = {"0:", "0:;0:", "0:;0:;0:", "0:a;0:a,b;0:b", ALIKE, ROW, FAR, NEST};
        int[][] due = {{1, 0, 0}, {3, 1, 0}, {4, 1, 0}, {4, 0, 1}, {8, 1, 0}, {8, 0, 1}, {9, 2, 0}, {13, 6, 0}};
        for (int i = 0; i < texts.length; i++) {
            for (int what = 0; what <= 2; what++) {
                CHECK.due("13: of " + texts[i] + ", what " + what, Check.told(texts[i]).knots(what), due[i][what]);
            }
        }
        for (int what = 0; what <= 2; what++) {
            CHECK.due("13: nobody, what " + what, new FindOrder().knots(what), 0);
        }
    }

    private static void knotRefuses() {
        FindOrder x = Check.told("0:;0:");
        int[] noKnots = {LEAST, -1, 3, 4, GREATEST};
        int[] wrong = {LEAST, -1, 5, GREATEST};
        for (int i : noKnots) {
            for (int what = 0; what <= 4; what++) {
                CHECK.due("14: no KNOT " + i + ", what " + what, x.knot(i, what), NONE);
                CHECK.due("14: STATE ahead of NONE, " + i + ", " + what, Check.told(RING).knot(i, what), STATE);
            }
        }
        for (int what : wrong) {
            CHECK.due("14: what " + what, x.knot(2, what), NONE);
            CHECK.due("14: STATE is named ahead of NONE, what " + what, Check.told(RING).knot(0, what), STATE);
        }
        CHECK.due("14: nobody", new FindOrder().knot(0, 0), NONE);
        FindOrder deep = Check.told(NEST);
        CHECK.due("14: the last KNOT of 13", deep.knot(12, 0), 127);
        CHECK.due("14: behind it", deep.knot(13, 0), NONE);
    }

    private static void knotOfOneAndTwo() {
        FindOrder one = Check.told("0:a");
        int[] alone = {1, 0, NONE, 0, NOT};
        FindOrder two = Check.told("0:a;0:a");
        int[] leaf = {2, 0, NONE, 0, 2};
        int[] both = {3, 1, NONE, 2, NOT};
        for (int what = 0; what <= 4; what++) {
            CHECK.due("14: of one GRAVE, what " + what, one.knot(0, what), alone[what]);
            CHECK.due("14: of two, one of them, what " + what, two.knot(1, what), leaf[what]);
            CHECK.due("14: of two, both, what " + what, two.knot(2, what), both[what]);
        }
        CHECK.due("14: of one GRAVE there is no KNOT 1", one.knot(1, 0), NONE);
    }

    private static void knotsInTheirOrder() {
        FindOrder x = Check.told("0:a,d;0:b,d;0:c;0:a,d;0:b,d;0:c");
        int[] bits = {1, 2, 4, 8, 16, 32, 9, 18, 36, 27, 63};
        for (int i = 0; i < bits.length; i++) {
            CHECK.due("14: fewest GRAVES first, then the lesser bits, KNOT " + i, x.knot(i, 0), bits[i]);
        }
        CHECK.due("14: there is no more", x.knot(bits.length, 0), NONE);
    }

    private static void freeOrFixed() {
        FindOrder two = Check.told("0:a;0:a;0:");
        CHECK.due("14: just two CHILDREN that together are a CLUSTER: FREE", two.knot(3, 1), 1);
        CHECK.due("14: two CHILDREN, one with CHILDREN of its own: FREE", two.knot(4, 1), 1);
        FindOrder three = Check.told("0:;0:;0:");
        CHECK.due("14: three CHILDREN, no two of them a CLUSTER: FREE", three.knot(3, 1), 1);
        CHECK.due("14: three CHILDREN", three.knot(3, 3), 3);
        FindOrder fixed = Check.told("0:a;0:a,b;0:b");
        CHECK.due("14: three CHILDREN, two of them a CLUSTER: FIXED", fixed.knot(3, 1), 2);
        CHECK.due("14: three CHILDREN of it", fixed.knot(3, 3), 3);
        String[] middles = {"0:a,b;0:a;0:b", "0:a;0:a,b;0:b", "0:a;0:b;0:a,b"};
        for (int g = 0; g < 3; g++) {
            FindOrder x = Check.told(middles[g]);
            CHECK.due("14: three CHILDREN, GRAVE " + g + " in the middle: FIXED", x.knot(3, 1), 2);
            CHECK.due("13: three CHILDREN, GRAVE " + g + " in the middle: FIXED", x.knots(2), 1);
            CHECK.due("15: three CHILDREN, GRAVE " + g + " in the middle: FIXED", x.told(), 2);
        }
        FindOrder seven = Check.told(ROW);
        CHECK.due("14: seven CHILDREN: FIXED", seven.knot(7, 1), 2);
        CHECK.due("14: seven CHILDREN", seven.knot(7, 3), 7);
        CHECK.due("14: seven CHILDREN: FREE", Check.told(ALIKE).knot(7, 1), 1);
        CHECK.due("14: without CHILDREN: an END", seven.knot(6, 1), 0);
    }

    private static void childrenAreNoGrandchildren() {
        FindOrder x = Check.told(NEST);
        for (int i = 7; i < 13; i++) {
            CHECK.due("14: CHILDREN of KNOT " + i, x.knot(i, 3), 2);
            CHECK.due("14: the KNOT that " + i + " is a CHILD of", x.knot(i, 4), i == 12 ? NOT : i + 1);
        }
        CHECK.due("14: GRAVE 0 is a CHILD of the least around it", x.knot(0, 4), 7);
        CHECK.due("14: GRAVE 2 is a CHILD of the next", x.knot(2, 4), 8);
        CHECK.due("14: GRAVE 6 is a CHILD of all", x.knot(6, 4), 12);
    }

    private static void told() {
        CHECK.due("15: there is no GAPLESS ORDER", Check.told(RING).told(), FindOrder.NO);
        CHECK.due("15: NO is the least long", FindOrder.NO, Long.MIN_VALUE);
        CHECK.due("15: nobody: nothing is multiplied", new FindOrder().told(), 1);
        CHECK.due("15: one: nothing is multiplied", Check.told("0:").told(), 1);
        CHECK.due("15: two", Check.told("0:;0:").told(), 2);
        CHECK.due("15: seven in a row", Check.told(ALIKE).told(), 5040);
        CHECK.due("15: seven FIXED", Check.told(ROW).told(), 2);
        CHECK.due("15: six FREE of two", Check.told(NEST).told(), 64);
        CHECK.due("15: FIXED in FREE", Check.told("0:a;0:a,b;0:b;0:c;0:c,d;0:d;0:").told(), 2 * 2 * 6);
        CHECK.due("15: FREE in FIXED", Check.told("0:a;0:a;0:a,b;0:b;0:b").told(), 2 * 2 * 2);
    }

    private static void spoilsRefuses() {
        int[] wrong = {LEAST, -1, 3, GREATEST};
        for (int what : wrong) {
            CHECK.due("16: what " + what, Check.told(RING).spoils(what), BAD);
            CHECK.due("16: there is a GAPLESS ORDER, what " + what, Check.told(ROW).spoils(what), BAD);
            CHECK.due("16: nobody, what " + what, new FindOrder().spoils(what), BAD);
        }
    }

    private static void spoilsAllOrOneOrNone() {
        String[] texts = {"0:", "0:a;0:a", ROW, ALIKE, RING, TWO_RINGS, STAR,
            "0:a,b;0:a,b,c,d,e,f,g;0:c,d,e,f,g;+0h;+2h", "0:;0:a;0:b;0:c;0:d,a,b,c"};
        int[][] due = {{0, 0, NOT}, {0, 0, NOT}, {0, 0, NOT}, {0, 0, NOT}, {7, 7, 0}, {0, 0, NOT}, {64, 0, 6},
            {7, 128, 0}, {30, 7, 1}};
        for (int i = 0; i < texts.length; i++) {
            for (int what = 0; what <= 2; what++) {
                CHECK.due("16: of " + texts[i] + ", what " + what, Check.told(texts[i]).spoils(what), due[i][what]);
            }
        }
        CHECK.due("16: nobody, GRAVES", new FindOrder().spoils(0), 0);
        CHECK.due("16: nobody, TYPES", new FindOrder().spoils(1), 0);
        CHECK.due("16: nobody, the least", new FindOrder().spoils(2), NOT);
    }
}
