/** Promises 12 to 16: clusters, knots, knot, told, spoils. */
final class TreeTest {
    private static final Check CHECK = new Check("TreeTest");
    /** A fixed knot of 0, 1, 2 (1 in the middle), a free one of 3, 4, and 5 by itself. */
    private static final String WOOD = "0:a;0:a,b;0:b;0:c;0:c;0:";
    private static final String SPOILT = "0:a,b;0:b,c;0:c,a;0:";

    public static void main(String[] args) {
        clusters();
        knots();
        knot();
        told();
        spoils();
        CHECK.end();
    }

    private static void clusters() {
        CHECK.due("12: wood", Check.told(WOOD).clusters(), 6 + 2 + 1 + 1 + 1);
        CHECK.due("12: spoilt", Check.told(SPOILT).clusters(), FindOrder.STATE);
        CHECK.due("12: nobody", new FindOrder().clusters(), 0);
        CHECK.due("12: one", Check.told("0:").clusters(), 1);
        CHECK.due("12: two", Check.told("0:;0:").clusters(), 3);
        CHECK.due("12: all free", Check.told("0:;0:;0:;0:;0:;0:;0:").clusters(), 8);
        CHECK.due("12: all fixed", Check.told("0:a;0:a,b;0:b,c;0:c,d;0:d").clusters(), 15);
    }

    private static void knots() {
        FindOrder x = Check.told(WOOD);
        CHECK.due("13: all", x.knots(0), 9);
        CHECK.due("13: free", x.knots(1), 2);
        CHECK.due("13: fixed", x.knots(2), 1);
        CHECK.due("13: what 3", x.knots(3), FindOrder.BAD);
        CHECK.due("13: what -1", x.knots(-1), FindOrder.BAD);
        FindOrder spoilt = Check.told(SPOILT);
        CHECK.due("13: spoilt", spoilt.knots(0), FindOrder.STATE);
        CHECK.due("13: spoilt, bad what", spoilt.knots(3), FindOrder.BAD);
        CHECK.due("13: nobody", new FindOrder().knots(0), 0);
        FindOrder nest = Check.told("0:a;0:a,b;0:b,c;0:c,d;0:d,e;0:e,f;0:f");
        CHECK.due("13: one fixed knot and its ends", nest.knots(0), 8);
        FindOrder deep = Check.told("0:a,b,c,d,e;0:a,b,c,d,e;0:b,c,d,e;0:c,d,e;0:d,e;0:e;0:");
        CHECK.due("13: the most knots", deep.knots(0), 13);
        CHECK.due("13: the most free", deep.knots(1), 6);
    }

    private static void knot() {
        FindOrder x = Check.told(WOOD);
        int[] bits = {1, 2, 4, 8, 16, 32, 24, 7, 63};
        int[] sort = {0, 0, 0, 0, 0, 0, 1, 2, 1};
        int[] children = {0, 0, 0, 0, 0, 0, 2, 3, 3};
        int[] parent = {7, 7, 7, 6, 6, 8, 8, 8, FindOrder.NOT};
        for (int i = 0; i < 9; i++) {
            CHECK.due("14: bits of " + i, x.knot(i, 0), bits[i]);
            CHECK.due("14: sort of " + i, x.knot(i, 1), sort[i]);
            CHECK.due("14: children of " + i, x.knot(i, 3), children[i]);
            CHECK.due("14: parent of " + i, x.knot(i, 4), parent[i]);
        }
        CHECK.due("14: no knot 9", x.knot(9, 0), FindOrder.NONE);
        CHECK.due("14: no knot -1", x.knot(-1, 0), FindOrder.NONE);
        CHECK.due("14: what 2 is not told", x.knot(0, 2), FindOrder.NONE);
        CHECK.due("14: what 5", x.knot(0, 5), FindOrder.NONE);
        CHECK.due("14: what -1", x.knot(0, -1), FindOrder.NONE);
        FindOrder spoilt = Check.told(SPOILT);
        CHECK.due("14: spoilt", spoilt.knot(0, 0), FindOrder.STATE);
        CHECK.due("14: spoilt, no such", spoilt.knot(99, 9), FindOrder.STATE);
        FindOrder pairs = Check.told("0:a;0:b;0:a;0:b");
        CHECK.due("14: the lesser bits first", pairs.knot(4, 0), 5);
        CHECK.due("14: then the greater", pairs.knot(5, 0), 10);
        CHECK.due("14: two children are free", pairs.knot(6, 1), 1);
        x.drop(5);
        CHECK.due("14: made again", x.knot(7, 0), 31);
    }

    private static void told() {
        CHECK.due("15: wood", Check.told(WOOD).told(), 2 * 2 * 6);
        CHECK.due("15: spoilt", Check.told(SPOILT).told(), FindOrder.NO);
        CHECK.due("15: nobody", new FindOrder().told(), 1);
        CHECK.due("15: all free", Check.told("0:;0:;0:;0:;0:;0:;0:").told(), 5040);
        CHECK.due("15: fixed", Check.told("0:a;0:a,b;0:b,c;0:c").told(), 2);
    }

    private static void spoils() {
        FindOrder x = Check.told(SPOILT);
        CHECK.due("16: graves", x.spoils(0), 7);
        CHECK.due("16: types", x.spoils(1), 7);
        CHECK.due("16: least grave", x.spoils(2), 0);
        CHECK.due("16: what 3", x.spoils(3), FindOrder.BAD);
        CHECK.due("16: what -1", x.spoils(-1), FindOrder.BAD);
        FindOrder star = Check.told("0:z;0:a;0:b;0:c;0:a,b,c");
        CHECK.due("16: star's graves", star.spoils(0), 2 + 4 + 8 + 16);
        CHECK.due("16: star's types", star.spoils(1), 2 + 4 + 8);
        CHECK.due("16: star's least", star.spoils(2), 1);
        FindOrder twice = Check.told("0:a,b;0:b,c;0:c,a;0:d,e;0:e,f;0:f,d");
        CHECK.due("16: no grave spoils", twice.spoils(0), 0);
        CHECK.due("16: no type spoils", twice.spoils(1), 0);
        CHECK.due("16: none", twice.spoils(2), FindOrder.NOT);
        FindOrder fine = Check.told(WOOD);
        CHECK.due("16: gapless, graves", fine.spoils(0), 0);
        CHECK.due("16: gapless, types", fine.spoils(1), 0);
        CHECK.due("16: gapless, least", fine.spoils(2), FindOrder.NOT);
        CHECK.due("16: gapless, bad what", fine.spoils(3), FindOrder.BAD);
    }
}
