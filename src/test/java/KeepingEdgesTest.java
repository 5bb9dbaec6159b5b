/** The boundaries that promises 31 to 40 and their terms name: trays, lists, the image. */
final class KeepingEdgesTest {
    private static final Check CHECK = new Check("KeepingEdgesTest");
    private static final int NONE = FindOrder.NONE;
    private static final int BAD = FindOrder.BAD;
    private static final int NOT = FindOrder.NOT;
    private static final int NO_ITEM = FindOrder.NO_ITEM;
    private static final int MISSING = -11;
    private static final int OUTSIDE = -12;
    private static final int SIZE = -14;
    private static final int LEAST = Integer.MIN_VALUE;
    private static final int GREATEST = Integer.MAX_VALUE;
    private static final int[] NO_TRAYS = {LEAST, -1, 4, GREATEST};
    private static final int[] NO_LISTS = {LEAST, -1, 3, GREATEST};
    private static final String ALIKE = "0:;0:;0:;0:;0:;0:;0:";
    private static final String RING = "0:a,b;0:b,c;0:c,a";

    public static void main(String[] args) {
        trayRefuses();
        trayThereOrMissing();
        layRefuses();
        layOfNoneAndAll();
        laidRefuses();
        countsByNames();
        listRefuses();
        listOfNoneToThirty();
        putRefuses();
        getRefuses();
        putAndGetAtTheEnds();
        fillRefuses();
        fillFromFirstToLast();
        judgeRefuses();
        judgeFirstAndLast();
        judgeOfNobody();
        imageOfNobodyAndOfAll();
        undoRefuses();
        undoKeeps();
        undoLaysBack();
        CHECK.end();
    }

    private static void trayRefuses() {
        FindOrder x = Check.told("0:a");
        for (int tray : NO_TRAYS) {
            for (int is = -1; is <= 2; is++) {
                CHECK.due("31: no TRAY " + tray + ", is " + is, x.tray(tray, is), NONE);
            }
        }
        x.tray(3, 1);
        x.lay(3, 0);
        int[] wrong = {LEAST, -1, 2, GREATEST};
        for (int is : wrong) {
            CHECK.due("31: is " + is, x.tray(3, is), BAD);
            CHECK.due("31: of a missing one, is " + is, x.tray(0, is), BAD);
            CHECK.due("31: it is missing still", x.laid(0, 0), MISSING);
            CHECK.due("31: what is refused changes no count", x.laid(3, 0), 1);
        }
    }

    private static void trayThereOrMissing() {
        FindOrder x = Check.told("0:a");
        for (int tray = 0; tray <= 3; tray++) {
            CHECK.due("31: TRAY " + tray + " is missing already", x.tray(tray, 0), 1);
            CHECK.due("31: TRAY " + tray + " is missing", x.lay(tray, 0), MISSING);
            CHECK.due("31: TRAY " + tray + " is there", x.tray(tray, 1), 1);
            CHECK.due("31: TRAY " + tray + " is without counts", x.laid(tray, 0), NOT);
            CHECK.due("32: a NAME in TRAY " + tray, x.lay(tray, 0), 1);
            CHECK.due("33: its count", x.laid(tray, 0), 1);
            CHECK.due("31: TRAY " + tray + " is there anew", x.tray(tray, 1), 1);
            CHECK.due("31: TRAY " + tray + " is without counts anew", x.laid(tray, 0), NOT);
            CHECK.due("32: a NAME in it anew", x.lay(tray, 0), 1);
            CHECK.due("31: TRAY " + tray + " is missing again", x.tray(tray, 0), 1);
            CHECK.due("33: no count in it", x.laid(tray, 0), MISSING);
            x.tray(tray, 1);
            CHECK.due("31: what it had is gone", x.laid(tray, 0), NOT);
        }
    }

    private static void layRefuses() {
        FindOrder x = Check.told("0:a;0:b");
        x.tray(0, 1);
        for (int tray : NO_TRAYS) {
            CHECK.due("32: no TRAY " + tray, x.lay(tray, 0), NONE);
            CHECK.due("32: neither TRAY " + tray + " nor GRAVE", x.lay(tray, 2), NONE);
        }
        int[] noGraves = {LEAST, -1, 2, 7, GREATEST};
        for (int g : noGraves) {
            CHECK.due("32: no GRAVE " + g, x.lay(0, g), NONE);
            CHECK.due("32: NONE is named ahead of MISSING, " + g, x.lay(3, g), NONE);
        }
        CHECK.due("32: MISSING", x.lay(3, 1), MISSING);
        CHECK.due("32: what is refused lays nothing", x.laid(0, 0), NOT);
        CHECK.due("32: nor the other", x.laid(0, 1), NOT);
    }

    private static void layOfNoneAndAll() {
        FindOrder x = Check.told("0:;0:a,b,c,d,e,f,g,h;0:h");
        x.tray(0, 1);
        CHECK.due("32: no NAMES", x.lay(0, 0), 0);
        CHECK.due("33: none has a count", x.laid(0, 7), NOT);
        CHECK.due("32: one NAME", x.lay(0, 2), 1);
        CHECK.due("32: eight NAMES", x.lay(0, 1), 8);
        CHECK.due("32: no NAMES more", x.lay(0, 0), 8);
        CHECK.due("33: once", x.laid(0, 0), 1);
        CHECK.due("33: once more", x.laid(0, 7), 2);
        for (int i = 0; i < 400; i++) {
            x.lay(0, 2);
        }
        CHECK.due("33: once more each", x.laid(0, 7), 402);
        CHECK.due("33: the others as they were", x.laid(0, 6), 1);
    }

    private static void laidRefuses() {
        FindOrder x = Check.told("0:a;0:b");
        x.tray(0, 1);
        for (int tray : NO_TRAYS) {
            CHECK.due("33: no TRAY " + tray, x.laid(tray, 0), NONE);
            CHECK.due("33: neither TRAY " + tray + " nor TYPE", x.laid(tray, 2), NONE);
        }
        int[] noTypes = {LEAST, -1, 2, 7, 8, GREATEST};
        for (int t : noTypes) {
            CHECK.due("33: no TYPE " + t, x.laid(0, t), NONE);
            CHECK.due("33: NONE is named ahead of MISSING, " + t, x.laid(3, t), NONE);
        }
        CHECK.due("33: MISSING", x.laid(3, 1), MISSING);
        CHECK.due("33: no count", x.laid(0, 1), NOT);
        x.lay(0, 0);
        CHECK.due("33: no count, but another has one", x.laid(0, 1), NOT);
    }

    private static void countsByNames() {
        FindOrder x = new FindOrder();
        x.image();
        x.tray(2, 1);
        Check.tell(x, "0:ab,abcdef");
        x.lay(2, 0);
        x.undo();
        Check.tell(x, "0:abcdef,abcde,a");
        CHECK.due("33: a count by NAME, whatever the TYPE's number", x.laid(2, 0), 1);
        CHECK.due("33: a NAME's beginning is another NAME", x.laid(2, 1), NOT);
        CHECK.due("33: and so is a shorter one", x.laid(2, 2), NOT);
        CHECK.due("32: NAMES of no TYPE are counted still", x.lay(2, 0), 4);
        x.has(0, 0, 0);
        CHECK.due("33: what a GRAVE has no more stays", x.laid(2, 0), 2);
        x.drop(0);
        CHECK.due("33: what a dropped GRAVE had stays", x.laid(2, 0), 2);
    }

    private static void listRefuses() {
        FindOrder x = new FindOrder();
        x.list(2, 2);
        x.put(2, 1, 5);
        for (int list : NO_LISTS) {
            int[] sizes = {LEAST, -2, -1, 0, 30, 31, GREATEST};
            for (int n : sizes) {
                CHECK.due("34: no LIST " + list + ", n " + n, x.list(list, n), NONE);
            }
        }
        CHECK.due("34: n above 30", x.list(2, 31), BAD);
        CHECK.due("34: the greatest n", x.list(2, GREATEST), BAD);
        CHECK.due("34: n below -1", x.list(2, -2), SIZE);
        CHECK.due("34: the least n", x.list(2, LEAST), SIZE);
        CHECK.due("34: what is refused changes no item", x.get(2, 1), 5);
        CHECK.due("34: what is refused makes no more", x.get(2, 2), NO_ITEM);
        CHECK.due("34: of a missing one, n above 30", x.list(0, 31), BAD);
        CHECK.due("34: of a missing one, n below -1", x.list(0, -2), SIZE);
        CHECK.due("34: it is missing still", x.put(0, 0, 1), MISSING);
    }

    private static void listOfNoneToThirty() {
        int[] sizes = {0, 1, 29, 30};
        for (int list = 0; list <= 2; list++) {
            FindOrder x = new FindOrder();
            CHECK.due("34: LIST " + list + " is missing already", x.list(list, -1), 1);
            CHECK.due("34: LIST " + list + " is missing", x.put(list, 0, 1), MISSING);
            for (int n : sizes) {
                CHECK.due("34: LIST " + list + " of " + n, x.list(list, n), 1);
                for (int i = -1; i <= 31; i++) {
                    boolean is = i >= 0 && i < n;
                    CHECK.due("34: item " + i + " of " + n, x.get(list, i), is ? 0 : NO_ITEM);
                    CHECK.due("35: item " + i + " of " + n, x.put(list, i, i + 7), is ? 1 : OUTSIDE);
                }
                CHECK.due("34: all 0 anew, " + n, x.list(list, n), 1);
                CHECK.due("34: the first of " + n, x.get(list, 0), n > 0 ? 0 : NO_ITEM);
                CHECK.due("34: the last of " + n, x.get(list, n - 1), n > 0 ? 0 : NO_ITEM);
            }
            CHECK.due("34: it becomes missing", x.list(list, -1), 1);
            CHECK.due("34: LIST " + list + " is missing again", x.put(list, 0, 1), MISSING);
            x.list(list, 30);
            CHECK.due("34: what it had is gone", x.get(list, 29), 0);
        }
    }

    private static void putRefuses() {
        FindOrder x = new FindOrder();
        x.list(0, 2);
        for (int list : NO_LISTS) {
            CHECK.due("35: no LIST " + list, x.put(list, 0, 1), NONE);
            CHECK.due("35: NONE is named ahead of OUTSIDE, " + list, x.put(list, 30, 1), NONE);
        }
        int[] outside = {LEAST, -1, 2, 3, 29, 30, GREATEST};
        for (int i : outside) {
            CHECK.due("35: OUTSIDE " + i, x.put(0, i, 1), OUTSIDE);
            CHECK.due("35: MISSING is named ahead of OUTSIDE, " + i, x.put(1, i, 1), MISSING);
        }
        CHECK.due("35: what is refused changes nothing, 0", x.get(0, 0), 0);
        CHECK.due("35: what is refused changes nothing, 1", x.get(0, 1), 0);
        CHECK.due("35: MISSING", x.put(2, 0, 1), MISSING);
    }

    private static void getRefuses() {
        FindOrder x = new FindOrder();
        x.list(0, 2);
        for (int list : NO_LISTS) {
            CHECK.due("36: no LIST " + list, x.get(list, 0), NO_ITEM);
        }
        int[] outside = {LEAST, -1, 2, 3, 29, 30, GREATEST};
        for (int i : outside) {
            CHECK.due("36: no such place " + i, x.get(0, i), NO_ITEM);
            CHECK.due("36: it is missing, " + i, x.get(1, i), NO_ITEM);
        }
        CHECK.due("36: it is missing", x.get(1, 0), NO_ITEM);
        CHECK.due("36: NO_ITEM", NO_ITEM, -2000000000);
    }

    private static void putAndGetAtTheEnds() {
        FindOrder x = new FindOrder();
        x.list(0, 30);
        x.list(1, 30);
        int[] values = {LEAST, -1, 0, 1, GREATEST, NO_ITEM};
        for (int v : values) {
            CHECK.due("35: the first becomes " + v, x.put(0, 0, v), 1);
            CHECK.due("35: the last becomes " + v, x.put(0, 29, v), 1);
            CHECK.due("36: the first is " + v, x.get(0, 0), v);
            CHECK.due("36: the last is " + v, x.get(0, 29), v);
        }
        CHECK.due("35: the second stays", x.get(0, 1), 0);
        CHECK.due("35: another LIST stays", x.get(1, 29), 0);
    }

    private static void fillRefuses() {
        FindOrder x = Check.told("0:a;0:b;0:a,b");
        x.list(0, 3);
        x.put(0, 0, 77);
        int[] wrong = {LEAST, -1};
        for (int list : NO_LISTS) {
            CHECK.due("37: no LIST " + list, x.fill(list, 0), NONE);
            CHECK.due("37: NONE is named ahead of BAD, " + list, x.fill(list, -1), NONE);
        }
        for (int from : wrong) {
            CHECK.due("37: from " + from, x.fill(0, from), BAD);
            CHECK.due("37: BAD is named ahead of MISSING, " + from, x.fill(1, from), BAD);
        }
        CHECK.due("37: MISSING", x.fill(1, 0), MISSING);
        CHECK.due("37: MISSING, behind the last", x.fill(1, 2), MISSING);
        CHECK.due("37: what is refused changes nothing", x.get(0, 0), 77);
    }

    private static void fillFromFirstToLast() {
        FindOrder x = Check.told("0:a;0:b;0:a,b");
        int[][] due = {{2, 132, 231, 9}, {1, 231, 9, 9}, {0, 9, 9, 9}, {0, 9, 9, 9}, {0, 9, 9, 9}};
        int[] froms = {0, 1, 2, 3, GREATEST};
        for (int k = 0; k < froms.length; k++) {
            x.list(2, 3);
            for (int i = 0; i < 3; i++) {
                x.put(2, i, 9);
            }
            CHECK.due("37: how many from " + froms[k], x.fill(2, froms[k]), due[k][0]);
            for (int i = 0; i < 3; i++) {
                CHECK.due("37: item " + i + " from " + froms[k], x.get(2, i), due[k][i + 1]);
            }
        }
        x.list(0, 0);
        CHECK.due("37: a LIST of no ints", x.fill(0, 0), 0);
        x.list(0, 1);
        CHECK.due("37: a LIST of one", x.fill(0, 1), 1);
        CHECK.due("37: its item", x.get(0, 0), 231);
        FindOrder all = Check.told(ALIKE);
        all.list(0, 30);
        CHECK.due("37: 30 of 5040", all.fill(0, 0), 30);
        CHECK.due("37: the first of them", all.get(0, 0), 1234567);
        CHECK.due("37: the last of the LIST", all.get(0, 29), all.gapless(29));
        CHECK.due("37: the last 30", all.fill(0, 5010), 30);
        CHECK.due("37: the last of all", all.get(0, 29), 7654321);
        CHECK.due("37: one of them is not there", all.fill(0, 5011), 29);
        CHECK.due("37: the last of all is one ahead", all.get(0, 28), 7654321);
        CHECK.due("37: the other item stays", all.get(0, 29), 7654321);
        CHECK.due("37: the last alone", all.fill(0, 5039), 1);
        CHECK.due("37: behind the last", all.fill(0, 5040), 0);
        FindOrder ring = Check.told(RING);
        ring.list(0, 2);
        CHECK.due("37: there is no GAPLESS ORDER", ring.fill(0, 0), 0);
        CHECK.due("37: the items stay", ring.get(0, 0), 0);
        FindOrder nobody = new FindOrder();
        nobody.list(0, 2);
        nobody.put(0, 0, 5);
        nobody.put(0, 1, 6);
        CHECK.due("37: nobody's one ORDER", nobody.fill(0, 0), 1);
        CHECK.due("37: it is 0", nobody.get(0, 0), 0);
        CHECK.due("37: there is no other", nobody.get(0, 1), 6);
    }

    private static void judgeRefuses() {
        FindOrder x = Check.told("0:a;0:b;0:a,b");
        x.list(0, 1);
        for (int list : NO_LISTS) {
            CHECK.due("38: no LIST " + list, x.judge(list, 0), NONE);
            CHECK.due("38: NONE is named ahead of BAD, " + list, x.judge(list, 3), NONE);
        }
        int[] wrong = {LEAST, -1, 3, GREATEST};
        for (int what : wrong) {
            CHECK.due("38: what " + what, x.judge(0, what), BAD);
            CHECK.due("38: BAD is named ahead of MISSING, " + what, x.judge(1, what), BAD);
        }
        for (int what = 0; what <= 2; what++) {
            CHECK.due("38: MISSING, what " + what, x.judge(1, what), MISSING);
        }
    }

    private static void judgeFirstAndLast() {
        FindOrder x = Check.told("0:a;0:b;0:a,b");
        x.list(0, 0);
        for (int what = 0; what <= 2; what++) {
            CHECK.due("38: no items, what " + what, x.judge(0, what), NOT);
        }
        x.list(0, 2);
        x.fill(0, 0);
        for (int what = 0; what <= 2; what++) {
            CHECK.due("38: there is none such, what " + what, x.judge(0, what), NOT);
        }
        int[] items = {123, 132, 231, 0, -132, LEAST, GREATEST, 1132};
        int[][] first = {{NOT, 0, 0}, {NOT, NOT, NOT}, {NOT, NOT, 0}, {0, 0, 0}, {0, 0, 0}, {0, 0, 0}, {0, 0, 0},
            {0, 0, 0}};
        for (int k = 0; k < items.length; k++) {
            x.put(0, 0, items[k]);
            for (int what = 0; what <= 2; what++) {
                CHECK.due("38: the first is " + items[k] + ", what " + what, x.judge(0, what), first[k][what]);
            }
        }
        x.put(0, 0, 132);
        int[][] last = {{NOT, 1, 1}, {NOT, NOT, 1}, {NOT, NOT, NOT}, {1, 1, 1}, {1, 1, 1}, {1, 1, 1}, {1, 1, 1},
            {1, 1, 1}};
        for (int k = 0; k < items.length; k++) {
            x.put(0, 1, items[k]);
            for (int what = 0; what <= 2; what++) {
                CHECK.due("38: the last is " + items[k] + ", what " + what, x.judge(0, what), last[k][what]);
            }
        }
        x.list(0, 3);
        x.fill(0, 0);
        x.put(0, 2, 231);
        CHECK.due("38: there is no GAPLESS ORDER of number 2", x.judge(0, 2), 2);
        CHECK.due("38: but it is one", x.judge(0, 1), NOT);
        x.put(0, 2, NONE);
        CHECK.due("38: NONE is not the GAPLESS ORDER that there is not", x.judge(0, 2), 2);
        FindOrder all = Check.told(ALIKE);
        all.list(0, 30);
        all.fill(0, 0);
        CHECK.due("38: thirty, there is none such", all.judge(0, 2), NOT);
        all.put(0, 29, 7654321);
        CHECK.due("38: thirty, the last is not that of its number", all.judge(0, 2), 29);
        all.put(0, 29, 0);
        CHECK.due("38: thirty, the last is no ORDER", all.judge(0, 0), 29);
    }

    private static void judgeOfNobody() {
        FindOrder x = new FindOrder();
        x.list(1, 2);
        CHECK.due("38: nobody's ORDER is 0", x.judge(1, 0), NOT);
        CHECK.due("38: it is GAPLESS", x.judge(1, 1), NOT);
        CHECK.due("38: there is no second", x.judge(1, 2), 1);
        x.put(1, 0, 1);
        CHECK.due("38: nobody has no ORDER 1", x.judge(1, 0), 0);
        FindOrder ring = Check.told(RING);
        ring.list(0, 1);
        ring.put(0, 0, 123);
        CHECK.due("38: an ORDER", ring.judge(0, 0), NOT);
        CHECK.due("38: there is no GAPLESS ORDER, what 1", ring.judge(0, 1), 0);
        CHECK.due("38: there is no GAPLESS ORDER, what 2", ring.judge(0, 2), 0);
    }

    private static void imageOfNobodyAndOfAll() {
        FindOrder x = new FindOrder();
        CHECK.due("39: of nobody", x.image(), 0);
        Check.tell(x, "1:a,b;2:c");
        CHECK.due("40: nobody again", x.undo(), 0);
        CHECK.due("40: no TYPES", x.count(1), 0);
        CHECK.due("40: no TYPE 0", x.type(0, 0), NONE);
        CHECK.due("40: nobody's ORDER", x.gapless(0), 0);
        FindOrder all = Check.told(GraveEdgesTest.FULL);
        CHECK.due("39: of seven", all.image(), 7);
        for (int g = 6; g >= 0; g--) {
            all.drop(g);
        }
        CHECK.due("40: seven again", all.undo(), 7);
        CHECK.due("40: full again", all.grave(0), FindOrder.FULL);
        CHECK.due("40: the last AGE", all.of(6, 0), 999);
        CHECK.due("40: the last set", all.of(6, 1), 128);
        CHECK.due("40: the first set", all.of(0, 1), 255);
        CHECK.due("40: no room for a NAME", Check.tell(all, "+0i"), -300);
    }

    private static void undoRefuses() {
        FindOrder x = Check.told("1:a");
        CHECK.due("40: there is none", x.undo(), FindOrder.STATE);
        CHECK.due("40: what is refused changes nothing, GRAVES", x.count(0), 1);
        CHECK.due("40: what is refused changes nothing, TYPES", x.count(1), 1);
        x.image();
        CHECK.due("40: there is one", x.undo(), 1);
        CHECK.due("40: it is there still", x.undo(), 1);
    }

    private static void undoKeeps() {
        FindOrder x = Check.told("1:a;2:b");
        x.tray(0, 1);
        x.list(0, 1);
        x.image();
        x.tray(0, 0);
        x.tray(3, 1);
        x.list(0, -1);
        x.list(2, 30);
        Check.tell(x, "+0b");
        x.lay(3, 0);
        x.put(2, 29, 5);
        x.feed('+');
        x.feed('1');
        x.undo();
        CHECK.due("40: a TRAY that is missing stays so", x.laid(0, 0), MISSING);
        CHECK.due("40: a TRAY that is there stays so", x.laid(3, 0), 1);
        CHECK.due("40: a count stays", x.laid(3, 1), 1);
        CHECK.due("40: a LIST that is missing stays so", x.put(0, 0, 1), MISSING);
        CHECK.due("40: an item stays", x.get(2, 29), 5);
        CHECK.due("40: how many bytes THE TAPE has stays", x.count(3), 2);
        CHECK.due("40: how many TEXTS were done stays", x.count(4), 2);
        x.feed('q');
        CHECK.due("40: THE TAPE's bytes stay", x.read(), 1);
        CHECK.due("40: and are done", x.of(1, 1), 2 + 4);
        CHECK.due("40: the set of 0 is as in THE IMAGE", x.of(0, 1), 1);
    }

    private static void undoLaysBack() {
        FindOrder x = Check.told("1:a;2:b");
        x.image();
        x.grave(3);
        CHECK.due("40: grave is laid back", x.undo(), 2);
        x.has(1, 0, 1);
        x.undo();
        CHECK.due("40: has is laid back", x.of(1, 1), 2);
        x.drop(0);
        x.undo();
        CHECK.due("40: drop is laid back", x.of(0, 0), 1);
        Check.tell(x, "-0a;3:c;-0d");
        x.undo();
        CHECK.due("40: read is laid back, GRAVES", x.count(0), 2);
        CHECK.due("40: read is laid back, TYPES", x.count(1), 2);
        CHECK.due("40: read is laid back, sets", x.of(0, 1), 1);
        Check.tell(x, "+0e");
        CHECK.due("40: a NAME that is laid back leaves its number", x.type(2, 2), 'e');
        CHECK.due("39: a later IMAGE is THE IMAGE", x.image(), 2);
        x.has(0, 2, 0);
        x.undo();
        CHECK.due("40: as in the later one", x.of(0, 1), 1 + 4);
        CHECK.due("40: with its TYPES", x.count(1), 3);
    }
}
