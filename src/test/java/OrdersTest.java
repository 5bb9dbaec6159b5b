/** Promises 8 to 11: orders, gapless, fewest, ends. */
final class OrdersTest {
    private static final Check CHECK = new Check("OrdersTest");

    public static void main(String[] args) {
        orders();
        gapless();
        fewest();
        ends();
        CHECK.end();
    }

    private static void orders() {
        FindOrder x = Check.told("0:a;0:;0:;0:a");
        // a's two graves lie next to each other in 12 orders, with one between in 8, with two in 4
        CHECK.due("8: orders(0)", x.orders(0), 12);
        CHECK.due("8: orders(1)", x.orders(1), 20);
        CHECK.due("8: orders(2)", x.orders(2), 24);
        CHECK.due("8: orders(60)", x.orders(60), 24);
        CHECK.due("8: orders(61)", x.orders(61), FindOrder.BAD);
        CHECK.due("8: orders(-1)", x.orders(-1), FindOrder.BAD);
        FindOrder all = Check.told("0:a,b,c,d,e,f,g,h;0:;0:;0:;0:;0:;0:a,b,c,d,e,f,g,h");
        CHECK.due("8: most gaps less one", all.orders(39), 5040 - 240);
        CHECK.due("8: most gaps", all.orders(40), 5040);
        CHECK.due("8: below eight", all.orders(7), 1440);
        CHECK.due("8: nobody", new FindOrder().orders(0), 1);
    }

    private static void gapless() {
        FindOrder x = Check.told("0:a;0:b;0:a,b");
        CHECK.due("9: first", x.gapless(0), 132);
        CHECK.due("9: second", x.gapless(1), 231);
        CHECK.due("9: no third", x.gapless(2), FindOrder.NONE);
        CHECK.due("9: -1", x.gapless(-1), FindOrder.NONE);
        CHECK.due("9: far", x.gapless(Integer.MAX_VALUE), FindOrder.NONE);
        FindOrder none = Check.told("0:a,b;0:b,c;0:c,a");
        CHECK.due("9: none at all", none.gapless(0), FindOrder.NONE);
        CHECK.due("9: grave 0 never first", Check.told("0:a,b;0:a;0:b").gapless(0), 213);
        FindOrder star = Check.told("0:a,b,c;0:a;0:b;0:c");
        CHECK.due("9: none, but for grave 0", star.gapless(0), FindOrder.NONE);
        FindOrder free = Check.told("0:;0:;0:;0:;0:;0:;0:");
        CHECK.due("9: first of all", free.gapless(0), 1234567);
        CHECK.due("9: one between", free.gapless(719), 1765432);
        CHECK.due("9: the next", free.gapless(720), 2134567);
        CHECK.due("9: last of all", free.gapless(5039), 7654321);
        CHECK.due("9: behind all", free.gapless(5040), FindOrder.NONE);
        CHECK.due("9: nobody", new FindOrder().gapless(0), 0);
        CHECK.due("9: nobody's second", new FindOrder().gapless(1), FindOrder.NONE);
    }

    private static void fewest() {
        FindOrder x = Check.told("0:a,b;0:b,c;0:c,a;0:");
        CHECK.due("10: fewest", x.fewest(0), 1);
        CHECK.due("10: how many", x.fewest(1), 12);
        CHECK.due("10: first", x.fewest(2), 1234);
        FindOrder y = Check.told("0:a;0:b;0:a,b");
        CHECK.due("10: gapless", y.fewest(0), 0);
        CHECK.due("10: gapless, many", y.fewest(1), 2);
        CHECK.due("10: gapless, first", y.fewest(2), 132);
        CHECK.due("10: what 3", y.fewest(3), FindOrder.BAD);
        CHECK.due("10: what -1", y.fewest(-1), FindOrder.BAD);
        CHECK.due("10: nobody", new FindOrder().fewest(1), 1);
    }

    private static void ends() {
        FindOrder x = Check.told("0:a;0:b;0:a,b;0:");
        CHECK.due("11: gapless", x.ends(0, 3, 0), 1);
        CHECK.due("11: no gaps", x.ends(0, 3, 1), 0);
        CHECK.due("11: the first", x.ends(0, 3, 2), 1324);
        CHECK.due("11: the other way", x.ends(3, 0, 2), 4231);
        CHECK.due("11: a ends only", x.ends(0, 1, 0), 0);
        CHECK.due("11: fewest gaps", x.ends(0, 1, 1), 1);
        CHECK.due("11: first of the fewest", x.ends(0, 1, 2), 1342);
        CHECK.due("11: a in the middle", x.ends(2, 3, 0), 0);
        CHECK.due("11: no grave 4", x.ends(4, 0, 0), FindOrder.NONE);
        CHECK.due("11: no last 4", x.ends(0, 4, 0), FindOrder.NONE);
        CHECK.due("11: no grave -1", x.ends(-1, -1, 9), FindOrder.NONE);
        CHECK.due("11: both the same", x.ends(2, 2, 0), FindOrder.NOT);
        CHECK.due("11: both the same, bad what", x.ends(2, 2, 3), FindOrder.NOT);
        CHECK.due("11: what 3", x.ends(0, 1, 3), FindOrder.BAD);
        CHECK.due("11: what -1", x.ends(0, 1, -1), FindOrder.BAD);
        CHECK.due("11: both the same of two", Check.told("0:;0:").ends(1, 1, 0), FindOrder.NOT);
        FindOrder one = Check.told("0:a");
        CHECK.due("11: one grave", one.ends(0, 0, 0), 1);
        CHECK.due("11: one grave's gaps", one.ends(0, 0, 1), 0);
        CHECK.due("11: one grave's order", one.ends(0, 0, 2), 1);
        CHECK.due("11: one grave, what 3", one.ends(0, 0, 3), FindOrder.BAD);
    }
}
