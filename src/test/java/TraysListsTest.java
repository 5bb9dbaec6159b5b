/** Promises 31 to 38: tray, lay, laid, list, put, get, fill, judge. */
final class TraysListsTest {
    private static final Check CHECK = new Check("TraysListsTest");
    private static final int MISSING = -11;
    private static final int OUTSIDE = -12;
    private static final int SIZE = -14;

    public static void main(String[] args) {
        trays();
        namesOutlastTypes();
        lists();
        fill();
        judge();
        CHECK.end();
    }

    private static void trays() {
        FindOrder x = Check.told("1:a,b;2:b,c;3:");
        CHECK.due("31: no tray 4", x.tray(4, 1), FindOrder.NONE);
        CHECK.due("31: no tray -1", x.tray(-1, 5), FindOrder.NONE);
        CHECK.due("31: is 2", x.tray(0, 2), FindOrder.BAD);
        CHECK.due("31: is -1", x.tray(0, -1), FindOrder.BAD);
        CHECK.due("32: missing", x.lay(3, 0), MISSING);
        CHECK.due("33: missing", x.laid(3, 0), MISSING);
        CHECK.due("31: there", x.tray(3, 1), 1);
        CHECK.due("33: not yet", x.laid(3, 0), FindOrder.NOT);
        CHECK.due("32: nothing", x.lay(3, 2), 0);
        CHECK.due("32: two names", x.lay(3, 0), 2);
        CHECK.due("32: three names", x.lay(3, 1), 3);
        CHECK.due("32: again", x.lay(3, 1), 3);
        CHECK.due("32: the first name again", x.lay(3, 0), 3);
        CHECK.due("32: nothing more", x.lay(3, 2), 3);
        CHECK.due("33: a", x.laid(3, 0), 2);
        CHECK.due("33: b", x.laid(3, 1), 4);
        CHECK.due("33: c", x.laid(3, 2), 2);
        CHECK.due("33: no type 3", x.laid(3, 3), FindOrder.NONE);
        CHECK.due("33: no type -1", x.laid(3, -1), FindOrder.NONE);
        CHECK.due("33: no tray 4", x.laid(4, 0), FindOrder.NONE);
        CHECK.due("33: no tray -1", x.laid(-1, 0), FindOrder.NONE);
        CHECK.due("32: no grave 3", x.lay(3, 3), FindOrder.NONE);
        CHECK.due("32: no grave, missing", x.lay(0, -1), FindOrder.NONE);
        CHECK.due("32: no tray 4", x.lay(4, 0), FindOrder.NONE);
        CHECK.due("32: no tray -1", x.lay(-1, 0), FindOrder.NONE);
        CHECK.due("33: trays are apart", x.laid(2, 1), MISSING);
        CHECK.due("31: there again", x.tray(3, 1), 1);
        CHECK.due("33: without counts", x.laid(3, 1), FindOrder.NOT);
        CHECK.due("32: anew", x.lay(3, 0), 2);
        CHECK.due("31: away", x.tray(3, 0), 1);
        CHECK.due("33: away", x.laid(3, 0), MISSING);
        x.tray(3, 1);
        CHECK.due("33: still without counts", x.laid(3, 0), FindOrder.NOT);
    }

    private static void namesOutlastTypes() {
        FindOrder x = new FindOrder();
        x.image();
        x.tray(1, 1);
        Check.tell(x, "1:a,b");
        CHECK.due("32: a, b", x.lay(1, 0), 2);
        CHECK.due("40: back", x.undo(), 0);
        Check.tell(x, "1:b,c");
        CHECK.due("33: b was put by another number", x.laid(1, 0), 1);
        CHECK.due("33: c was not", x.laid(1, 1), FindOrder.NOT);
        CHECK.due("32: a is still counted", x.lay(1, 0), 3);
        CHECK.due("33: b twice", x.laid(1, 0), 2);
        for (int round = 0; round < 4; round++) {
            x.undo();
            StringBuilder text = new StringBuilder("1:");
            for (int i = 0; i < 8; i++) {
                text.append(i == 0 ? "" : ",").append((char) ('d' + round)).append((char) ('a' + i));
            }
            Check.tell(x, text.toString());
            CHECK.due("32: more names than types", x.lay(1, 0), 3 + 8 * (round + 1));
        }
    }

    private static void lists() {
        FindOrder x = new FindOrder();
        CHECK.due("34: no list 3", x.list(3, 0), FindOrder.NONE);
        CHECK.due("34: no list -1", x.list(-1, 99), FindOrder.NONE);
        CHECK.due("34: n 31", x.list(0, 31), FindOrder.BAD);
        CHECK.due("34: n -2", x.list(0, -2), SIZE);
        CHECK.due("35: missing", x.put(0, 0, 1), MISSING);
        CHECK.due("36: missing", x.get(0, 0), FindOrder.NO_ITEM);
        CHECK.due("34: n 30", x.list(0, 30), 1);
        CHECK.due("36: zero", x.get(0, 29), 0);
        CHECK.due("36: no item 30", x.get(0, 30), FindOrder.NO_ITEM);
        CHECK.due("36: no item -1", x.get(0, -1), FindOrder.NO_ITEM);
        CHECK.due("36: no list 3", x.get(3, 0), FindOrder.NO_ITEM);
        CHECK.due("36: no list -1", x.get(-1, 0), FindOrder.NO_ITEM);
        CHECK.due("35: put", x.put(0, 29, Integer.MIN_VALUE), 1);
        CHECK.due("36: put", x.get(0, 29), Integer.MIN_VALUE);
        CHECK.due("35: item 30", x.put(0, 30, 1), OUTSIDE);
        CHECK.due("35: item -1", x.put(0, -1, 1), OUTSIDE);
        CHECK.due("35: no list 3", x.put(3, 0, 1), FindOrder.NONE);
        CHECK.due("35: no list -1", x.put(-1, 0, 1), FindOrder.NONE);
        CHECK.due("36: lists are apart", x.get(1, 29), FindOrder.NO_ITEM);
        CHECK.due("34: refused", x.list(0, 31), FindOrder.BAD);
        CHECK.due("36: stays", x.get(0, 29), Integer.MIN_VALUE);
        x.put(0, 0, 7);
        CHECK.due("34: again", x.list(0, 30), 1);
        CHECK.due("36: the first is zero again", x.get(0, 0), 0);
        CHECK.due("36: zero again", x.get(0, 29), 0);
        CHECK.due("34: n 0", x.list(2, 0), 1);
        CHECK.due("35: nothing in it", x.put(2, 0, 1), OUTSIDE);
        CHECK.due("34: away", x.list(0, -1), 1);
        CHECK.due("35: away", x.put(0, 0, 1), MISSING);
    }

    private static void fill() {
        FindOrder x = Check.told("0:a;0:b;0:a,b;0:");
        CHECK.due("37: no list 3", x.fill(3, -1), FindOrder.NONE);
        CHECK.due("37: no list -1", x.fill(-1, 0), FindOrder.NONE);
        CHECK.due("37: from -1", x.fill(0, -1), FindOrder.BAD);
        CHECK.due("37: missing", x.fill(0, 0), MISSING);
        x.list(0, 6);
        x.put(0, 3, 33);
        x.put(0, 5, 77);
        CHECK.due("37: from 1", x.fill(0, 1), 3);
        int[] due = {2314, 4132, 4231, 33, 0, 77};
        for (int i = 0; i < 6; i++) {
            CHECK.due("37: item " + i, x.get(0, i), due[i]);
        }
        CHECK.due("37: from 4", x.fill(0, 4), 0);
        CHECK.due("37: far", x.fill(0, Integer.MAX_VALUE), 0);
        CHECK.due("37: stays", x.get(0, 0), 2314);
        x.list(1, 2);
        CHECK.due("37: a short list", x.fill(1, 0), 2);
        CHECK.due("37: its first", x.get(1, 0), 1324);
        CHECK.due("37: its second", x.get(1, 1), 2314);
        x.list(2, 0);
        CHECK.due("37: an empty list", x.fill(2, 0), 0);
        FindOrder spoilt = Check.told("0:a,b;0:b,c;0:c,a");
        spoilt.list(0, 3);
        CHECK.due("37: none gapless", spoilt.fill(0, 0), 0);
    }

    private static void judge() {
        FindOrder x = Check.told("0:a;0:b;0:a,b;0:");
        CHECK.due("38: no list 3", x.judge(3, 9), FindOrder.NONE);
        CHECK.due("38: no list -1", x.judge(-1, 0), FindOrder.NONE);
        CHECK.due("38: what 3", x.judge(0, 3), FindOrder.BAD);
        CHECK.due("38: what -1", x.judge(0, -1), FindOrder.BAD);
        CHECK.due("38: missing", x.judge(0, 0), MISSING);
        x.list(0, 0);
        CHECK.due("38: empty", x.judge(0, 2), FindOrder.NOT);
        x.list(0, 4);
        CHECK.due("38: zeros", x.judge(0, 0), 0);
        x.fill(0, 0);
        for (int what = 0; what < 3; what++) {
            CHECK.due("38: all are right by " + what, x.judge(0, what), FindOrder.NOT);
        }
        x.put(0, 1, 4132);
        CHECK.due("38: gapless, but not its number", x.judge(0, 2), 1);
        CHECK.due("38: gapless still", x.judge(0, 1), FindOrder.NOT);
        x.put(0, 2, 1234);
        CHECK.due("38: not gapless", x.judge(0, 1), 2);
        CHECK.due("38: an order still", x.judge(0, 0), FindOrder.NOT);
        x.put(0, 3, 1);
        CHECK.due("38: no order", x.judge(0, 0), 3);
        x.list(0, 5);
        x.fill(0, 0);
        x.put(0, 4, 4321);
        CHECK.due("38: no such number", x.judge(0, 2), 4);
        CHECK.due("38: not gapless, at the end", x.judge(0, 1), 4);
        FindOrder nobody = new FindOrder();
        nobody.list(0, 2);
        CHECK.due("38: nobody's order is 0", nobody.judge(0, 1), FindOrder.NOT);
        CHECK.due("38: nobody has but one", nobody.judge(0, 2), 1);
    }
}
