/** The boundaries that promises 1 to 7 and their terms name: a new object, grave, has, of, type, drop, count. */
final class GraveEdgesTest {
    private static final Check CHECK = new Check("GraveEdgesTest");
    private static final int NONE = FindOrder.NONE;
    private static final int BAD = FindOrder.BAD;
    private static final int MISSING = -11;
    private static final int LEAST = Integer.MIN_VALUE;
    private static final int GREATEST = Integer.MAX_VALUE;
    /** Seven graves with eight types, all that there is room for. */
    static final String FULL = "0:a,b,c,d,e,f,g,h;0:;0:;0:;0:;0:;999:h";

    public static void main(String[] args) {
        nothingAtFirst();
        missingAtFirst();
        ages();
        sevenGraves();
        hasRefuses();
        hasAtTheLastBits();
        ofRefuses();
        peersModuloHundred();
        othersOfAGrave();
        typeRefuses();
        lettersOfANameOfOneToSix();
        aTypeStays();
        dropRefuses();
        dropOfFirstMiddleLast();
        countRefuses();
        countOfNothingAndOfAll();
        partsOneByOne();
        CHECK.end();
    }

    private static void nothingAtFirst() {
        FindOrder x = new FindOrder();
        for (int what = 0; what <= 5; what++) {
            CHECK.due("1: nothing to count, count(" + what + ")", x.count(what), 0);
        }
        for (int what = 0; what <= 3; what++) {
            CHECK.due("1: no GRAVES, of(0, " + what + ")", x.of(0, what), NONE);
        }
        for (int what = 0; what <= 7; what++) {
            CHECK.due("1: no TYPES, type(0, " + what + ")", x.type(0, what), NONE);
        }
        CHECK.due("1: no GRAVES, drop(0)", x.drop(0), NONE);
        CHECK.due("1: no GRAVES, shared(0, 0)", x.shared(0, 0), NONE);
        CHECK.due("1: no GRAVES, has(0, 0, 1)", x.has(0, 0, 1), NONE);
        CHECK.due("1: THE TAPE is empty", x.read(), -100);
        CHECK.due("1: no IMAGE", x.undo(), FindOrder.STATE);
        CHECK.due("1: an empty PAPER", x.spell(), 0);
        CHECK.due("1: no byte of it", x.paper(0), NONE);
        FindOrder other = new FindOrder();
        x.grave(1);
        Check.tell(x, "+0a");
        CHECK.due("1: another object has no GRAVES", other.count(0), 0);
        CHECK.due("1: another object has no TYPES", new FindOrder().count(1), 0);
    }

    private static void missingAtFirst() {
        FindOrder x = Check.told("1:a");
        for (int tray = 0; tray <= 3; tray++) {
            CHECK.due("1: TRAY " + tray + " is missing at first, lay", x.lay(tray, 0), MISSING);
            CHECK.due("1: TRAY " + tray + " is missing at first, laid", x.laid(tray, 0), MISSING);
        }
        for (int list = 0; list <= 2; list++) {
            CHECK.due("1: LIST " + list + " is missing at first, put", x.put(list, 0, 1), MISSING);
            CHECK.due("1: LIST " + list + " is missing at first, get", x.get(list, 0), FindOrder.NO_ITEM);
            CHECK.due("1: LIST " + list + " is missing at first, fill", x.fill(list, 0), MISSING);
            CHECK.due("1: LIST " + list + " is missing at first, judge", x.judge(list, 0), MISSING);
        }
    }

    private static void ages() {
        FindOrder x = new FindOrder();
        CHECK.due("2: an AGE below 0", x.grave(-1), BAD);
        CHECK.due("2: the least int", x.grave(LEAST), BAD);
        CHECK.due("2: an AGE above 999", x.grave(1000), BAD);
        CHECK.due("2: the greatest int", x.grave(GREATEST), BAD);
        CHECK.due("2: a refused GRAVE has not come", x.count(0), 0);
        CHECK.due("2: AGE 0", x.grave(0), 0);
        CHECK.due("2: AGE 1", x.grave(1), 1);
        CHECK.due("2: AGE 998", x.grave(998), 2);
        CHECK.due("2: AGE 999", x.grave(999), 3);
        int[] due = {0, 1, 998, 999};
        for (int g = 0; g < due.length; g++) {
            CHECK.due("2: the AGE of GRAVE " + g, x.of(g, 0), due[g]);
            CHECK.due("2: GRAVE " + g + " is without TYPES", x.of(g, 1), 0);
        }
    }

    private static void sevenGraves() {
        FindOrder x = new FindOrder();
        for (int g = 0; g < 7; g++) {
            CHECK.due("2: GRAVE " + g + " of 7 at most", x.grave(g), g);
        }
        CHECK.due("2: an eighth", x.grave(0), FindOrder.FULL);
        CHECK.due("2: an eighth of a greatest AGE", x.grave(999), FindOrder.FULL);
        CHECK.due("2: BAD is named ahead of FULL, -1", x.grave(-1), BAD);
        CHECK.due("2: BAD is named ahead of FULL, 1000", x.grave(1000), BAD);
        CHECK.due("2: there are 7 still", x.count(0), 7);
        CHECK.due("2: the last is as it was", x.of(6, 0), 6);
        CHECK.due("2: there is no GRAVE 7", x.of(7, 0), NONE);
        CHECK.due("2: a drop makes room", x.drop(0), 6);
        CHECK.due("2: for one", x.grave(77), 6);
        CHECK.due("2: and not for two", x.grave(78), FindOrder.FULL);
        FindOrder y = Check.told(FULL);
        CHECK.due("2: full by a TEXT", y.grave(0), FindOrder.FULL);
        y.drop(6);
        y.grave(5);
        CHECK.due("2: the new one has not the TYPES of the dropped one", y.of(6, 1), 0);
    }

    private static void hasRefuses() {
        FindOrder x = Check.told("1:a,b;2:");
        int[] noGraves = {LEAST, -1, 2, 7, GREATEST};
        for (int g : noGraves) {
            CHECK.due("3: no GRAVE " + g, x.has(g, 0, 1), NONE);
            CHECK.due("3: no GRAVE " + g + " is named ahead of is", x.has(g, 0, 2), NONE);
        }
        int[] noTypes = {LEAST, -1, 2, 7, 8, GREATEST};
        for (int t : noTypes) {
            CHECK.due("3: no TYPE " + t + " has come", x.has(1, t, 1), NONE);
            CHECK.due("3: no TYPE " + t + " is named ahead of is", x.has(1, t, -1), NONE);
        }
        int[] wrong = {LEAST, -1, 2, GREATEST};
        for (int is : wrong) {
            CHECK.due("3: is " + is + " with a TYPE that it has", x.has(0, 0, is), BAD);
            CHECK.due("3: is " + is + " with one that it has not", x.has(1, 0, is), BAD);
        }
        CHECK.due("3: what is refused changes nothing, GRAVE 0", x.of(0, 1), 3);
        CHECK.due("3: what is refused changes nothing, GRAVE 1", x.of(1, 1), 0);
        CHECK.due("3: no TYPE came", x.count(1), 2);
    }

    private static void hasAtTheLastBits() {
        FindOrder x = Check.told(FULL);
        CHECK.due("3: the last TYPE of the last GRAVE", x.has(6, 7, 0), 1);
        CHECK.due("3: it has it not", x.of(6, 1), 0);
        CHECK.due("3: only GRAVE 0 has TYPE 7", x.type(7, 0), 1);
        CHECK.due("3: again, and nothing else", x.has(6, 7, 0), 0);
        CHECK.due("3: it has it not still", x.of(6, 1), 0);
        CHECK.due("3: it has it again", x.has(6, 7, 1), 0);
        CHECK.due("3: as it was", x.has(6, 7, 1), 1);
        CHECK.due("3: bit 7 of TYPES", x.of(6, 1), 128);
        CHECK.due("3: bits 0 and 6 of GRAVES", x.type(7, 0), 65);
        CHECK.due("3: the first TYPE of the last GRAVE", x.has(6, 0, 1), 0);
        CHECK.due("3: bits 7 and 0 of TYPES", x.of(6, 1), 129);
        CHECK.due("3: the other GRAVES are as they were", x.of(5, 1), 0);
    }

    private static void ofRefuses() {
        FindOrder x = Check.told("7:a;8:a,b");
        int[] noGraves = {LEAST, -1, 2, 7, GREATEST};
        for (int g : noGraves) {
            for (int what = -1; what <= 4; what++) {
                CHECK.due("4: no GRAVE " + g + ", what " + what, x.of(g, what), NONE);
            }
        }
        int[] wrong = {LEAST, -1, 4, GREATEST};
        for (int what : wrong) {
            CHECK.due("4: what " + what, x.of(1, what), NONE);
        }
        CHECK.due("4: what 0, the least", x.of(1, 0), 8);
        CHECK.due("4: what 3, the greatest", x.of(1, 3), 1);
        CHECK.due("4: all eight bits of a set", Check.told(FULL).of(0, 1), 255);
        CHECK.due("4: AGE 999", Check.told(FULL).of(6, 0), 999);
    }

    private static void peersModuloHundred() {
        FindOrder x = Check.told("0:;100:;900:;99:;199:;999:;1:");
        int[] due = {3, 3, 3, 3, 3, 3, 1};
        for (int g = 0; g < due.length; g++) {
            CHECK.due("4: PEERS by AGE modulo 100 of GRAVE " + g, x.of(g, 2), due[g]);
        }
        FindOrder y = Check.told("99:a;100:a;0:b;200:a,b;300:a");
        int[] alone = {1, 2, 1, 1, 2};
        for (int g = 0; g < alone.length; g++) {
            CHECK.due("4: PEERS by the same set of GRAVE " + g, y.of(g, 2), alone[g]);
        }
        CHECK.due("4: a GRAVE by itself is its own PEER", Check.told("5:").of(0, 2), 1);
        CHECK.due("4: seven PEERS", Check.told("5:;105:;205:;305:;405:;505:;605:").of(6, 2), 7);
    }

    private static void othersOfAGrave() {
        CHECK.due("4: itself is no other", Check.told("0:a").of(0, 3), 0);
        CHECK.due("4: an equal one without TYPES shares none", Check.told("0:;0:").of(0, 3), 0);
        CHECK.due("4: one of two TYPES is enough", Check.told("0:a,b;0:b,c").of(0, 3), 1);
        CHECK.due("4: by two TYPES it is one still", Check.told("0:a,b;0:a,b").of(1, 3), 1);
        CHECK.due("4: six others", Check.told("0:a;0:a;0:a;0:a;0:a;0:a;0:a").of(6, 3), 6);
    }

    private static void typeRefuses() {
        FindOrder x = Check.told("1:a,b");
        int[] noTypes = {LEAST, -1, 2, 7, 8, GREATEST};
        for (int t : noTypes) {
            for (int what = -1; what <= 8; what++) {
                CHECK.due("5: no TYPE " + t + ", what " + what, x.type(t, what), NONE);
            }
        }
        int[] wrong = {LEAST, -1, 8, GREATEST};
        for (int what : wrong) {
            CHECK.due("5: what " + what, x.type(1, what), NONE);
        }
        FindOrder few = Check.told("0:;0:;0:;0:;0:;0:;0:a");
        CHECK.due("5: the last GRAVE of more than there are TYPES", few.type(0, 0), 64);
        FindOrder full = Check.told(FULL);
        CHECK.due("5: the last TYPE of all", full.type(7, 2), 'h');
        CHECK.due("5: there is no TYPE 8", full.type(8, 0), NONE);
        CHECK.due("5: the last bit of GRAVES", full.type(7, 0), 65);
    }

    private static void lettersOfANameOfOneToSix() {
        String[] names = {"z", "az", "aza", "zzzz", "aaaaa", "zyxcba"};
        FindOrder x = Check.told("0:" + String.join(",", names));
        for (int t = 0; t < names.length; t++) {
            CHECK.due("5: how many letters " + names[t] + " has", x.type(t, 1), t + 1);
            for (int i = 0; i < 6; i++) {
                int due = i < names[t].length() ? names[t].charAt(i) : NONE;
                CHECK.due("5: letter " + i + " of " + names[t], x.type(t, i + 2), due);
            }
        }
    }

    private static void aTypeStays() {
        FindOrder x = Check.told("0:a;0:b");
        x.has(0, 0, 0);
        CHECK.due("5: a TYPE that no GRAVE has stays", x.type(0, 2), 'a');
        CHECK.due("5: its set is empty", x.type(0, 0), 0);
        x.drop(0);
        x.drop(0);
        CHECK.due("5: TYPES stay without GRAVES", x.count(1), 2);
        CHECK.due("5: the set of the other is empty, too", x.type(1, 0), 0);
        x.grave(3);
        CHECK.due("5: a new GRAVE can have it", x.has(0, 1, 1), 0);
        CHECK.due("5: by its number", x.type(1, 0), 1);
        CHECK.due("5: a NAME told again is the TYPE that stayed", Check.tell(x, "+0a"), 1);
        CHECK.due("5: no TYPE came by it", x.count(1), 2);
    }

    private static void dropRefuses() {
        FindOrder x = Check.told("1:a;2:b");
        int[] noGraves = {LEAST, -1, 2, 7, GREATEST};
        for (int g : noGraves) {
            CHECK.due("6: no GRAVE " + g, x.drop(g), NONE);
        }
        CHECK.due("6: what is refused changes nothing", x.count(0), 2);
        CHECK.due("6: the last", x.drop(1), 1);
        CHECK.due("6: the only one", x.drop(0), 0);
        CHECK.due("6: nobody is left", x.drop(0), NONE);
        CHECK.due("6: the ORDER of nobody", x.gapless(0), 0);
    }

    private static void dropOfFirstMiddleLast() {
        int[] dropped = {0, 3, 6};
        for (int gone : dropped) {
            FindOrder x = Check.told("0:a;1:b;2:c;3:d;4:e;5:f;6:g");
            CHECK.due("6: one of seven, drop(" + gone + ")", x.drop(gone), 6);
            for (int g = 0; g < 6; g++) {
                int was = g < gone ? g : g + 1;
                CHECK.due("6: the AGE of " + g + " behind drop(" + gone + ")", x.of(g, 0), was);
                CHECK.due("6: the set of " + g + " behind drop(" + gone + ")", x.of(g, 1), 1 << was);
                CHECK.due("6: its TYPE behind drop(" + gone + ")", x.type(was, 0), 1 << g);
            }
            CHECK.due("6: nobody has the TYPE of " + gone, x.type(gone, 0), 0);
            CHECK.due("6: there is no GRAVE 6", x.of(6, 0), NONE);
            CHECK.due("6: ORDERS of six", x.orders(0), 720);
        }
    }

    private static void countRefuses() {
        FindOrder x = Check.told("1:a");
        int[] wrong = {LEAST, -1, 6, GREATEST};
        for (int what : wrong) {
            CHECK.due("7: what " + what, x.count(what), BAD);
        }
        CHECK.due("7: what 0, the least", x.count(0), 1);
        CHECK.due("7: what 5, the greatest", x.count(5), 0);
    }

    private static void countOfNothingAndOfAll() {
        FindOrder x = Check.told(FULL);
        int[] due = {7, 8, 6, 0, 1, 5};
        for (int what = 0; what <= 5; what++) {
            CHECK.due("7: of a full one, count(" + what + ")", x.count(what), due[what]);
        }
        for (int i = 0; i < 101; i++) {
            x.feed('a');
        }
        CHECK.due("7: THE TAPE has 100 bytes at most", x.count(3), 100);
        x.read();
        CHECK.due("7: THE TAPE is empty again", x.count(3), 0);
        CHECK.due("7: a FAULT is no TEXT done", x.count(4), 1);
        Check.tell(x, "+9a");
        CHECK.due("7: what can't be done is no TEXT done", x.count(4), 1);
        Check.tell(x, "+6a;-6a");
        CHECK.due("7: a TEXT of two STATEMENTS is one", x.count(4), 2);
        FindOrder bare = Check.told("0:;0:;0:;0:;0:;0:;0:");
        CHECK.due("7: all are without a TYPE", bare.count(5), 7);
        CHECK.due("7: each is a PART by itself", bare.count(2), 7);
    }

    private static void partsOneByOne() {
        CHECK.due("7: TYPES of their own make no PART", Check.told("0:a;0:b").count(2), 2);
        CHECK.due("7: one TYPE hangs all together", Check.told("0:a;0:a;0:a;0:a;0:a;0:a;0:a").count(2), 1);
        CHECK.due("7: one by one", Check.told("0:a;0:a,b;0:b,c;0:c,d;0:d,e;0:e,f;0:f").count(2), 1);
        CHECK.due("7: one by one from the far end", Check.told("0:a;0:f;0:b;0:e,f;0:a,c;0:d,e;0:b,d").count(2), 2);
        CHECK.due("7: the last one joins two", Check.told("0:a;0:b;0:a,b").count(2), 1);
        CHECK.due("7: the last one joins all", Check.told("0:a;0:b;0:c;0:d;0:e;0:f;0:a,b,c,d,e,f").count(2), 1);
    }
}
