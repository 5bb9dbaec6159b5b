/** The boundaries that promises 27 to 30 and their terms name: the tape, texts and their faults, the paper. */
final class TextEdgesTest {
    private static final Check CHECK = new Check("TextEdgesTest");
    private static final int NONE = FindOrder.NONE;
    private static final int BAD = FindOrder.BAD;
    private static final int LEAST = Integer.MIN_VALUE;
    private static final int GREATEST = Integer.MAX_VALUE;
    /** A hundred bytes that are a text; its last statement begins at place 90. */
    private static final String HUNDRED = "1:abcdef,bcdefg,cdefgh,defghi,efghij,fghijk,ghijkl,hijklm"
        + ";2:abcdef,bcdefg,cdefgh;3:abcdef;400:abcdef";

    public static void main(String[] args) {
        feedRefuses();
        hundredBytes();
        figuresOfAnAge();
        bytesNextToTheRight();
        namesOfOneToSix();
        oneStatementAtLeast();
        graveIsOneDigit();
        noBlanks();
        endsTooEarly();
        lastPlaceOfTheTape();
        noSuchGrave();
        noRoomForAGrave();
        noRoomForAName();
        oneNameTwice();
        firstFaultIsTold();
        nothingIsDone();
        whatATextDoes();
        paperRefuses();
        paperOfAges();
        paperOfNames();
        paperOfNobodyAndOfAll();
        CHECK.end();
    }

    /** What a text answers that is told to a new object. */
    private static void told(String why, String text, int due) {
        FindOrder x = new FindOrder();
        CHECK.due("28: " + why + ", '" + text + "'", Check.tell(x, text), due);
        CHECK.due("28: THE TAPE is empty then, '" + text + "'", x.count(3), 0);
        if (due < 0) {
            CHECK.due("28: nothing is done then, GRAVES by '" + text + "'", x.count(0), 0);
            CHECK.due("28: nothing is done then, TYPES by '" + text + "'", x.count(1), 0);
            CHECK.due("28: nothing is done then, TEXTS by '" + text + "'", x.count(4), 0);
        }
    }

    private static void feedRefuses() {
        FindOrder x = new FindOrder();
        int[] wrong = {LEAST, -1, 128, 255, 256 + 'a', GREATEST};
        for (int letter : wrong) {
            CHECK.due("27: no byte " + letter, x.feed(letter), BAD);
        }
        CHECK.due("27: what is refused changes nothing", x.count(3), 0);
        CHECK.due("27: the least byte", x.feed(0), 1);
        CHECK.due("27: the greatest byte", x.feed(127), 2);
        CHECK.due("28: byte 0 begins no STATEMENT", x.read(), -100);
        Check.tell(x, "1:");
        x.feed('1');
        x.feed(127);
        CHECK.due("28: byte 127 is in none", x.read(), -101);
    }

    private static void hundredBytes() {
        FindOrder x = new FindOrder();
        for (int i = 0; i < 100; i++) {
            CHECK.due("27: byte " + i + " of 100", x.feed(HUNDRED.charAt(i)), i + 1);
        }
        CHECK.due("27: a byte more", x.feed(';'), FindOrder.FULL);
        CHECK.due("27: byte 0 more", x.feed(0), FindOrder.FULL);
        CHECK.due("27: BAD is named ahead of FULL, 128", x.feed(128), BAD);
        CHECK.due("27: BAD is named ahead of FULL, -1", x.feed(-1), BAD);
        CHECK.due("27: there are 100 still", x.count(3), 100);
        CHECK.due("28: all 100, and none of what was refused", x.read(), 4);
        CHECK.due("28: the last byte is read", x.of(3, 1), 1);
        CHECK.due("27: empty again, there is room", x.feed('1'), 1);
    }

    private static void figuresOfAnAge() {
        told("no figure", ":", -100);
        told("no figure, but a NAME", "a", -100);
        told("one figure", "7:", 1);
        told("two figures", "77:", 1);
        told("three figures", "777:", 1);
        told("a fourth figure", "7777:", -103);
        told("a fourth figure, the first 0", "0777:", -103);
        told("no : behind them", "777a", -103);
        told("no : behind one", "7;", -101);
        told("the least AGE", "0:", 1);
        told("the least AGE of three figures", "000:", 1);
        told("the greatest AGE", "999:", 1);
        told("a sign is no figure", "-7:", -102);
        FindOrder x = Check.told("0:;000:;009:;090:;999:");
        int[] due = {0, 0, 9, 90, 999};
        for (int g = 0; g < due.length; g++) {
            CHECK.due("28: the AGE of GRAVE " + g, x.of(g, 0), due[g]);
        }
    }

    private static void bytesNextToTheRight() {
        told("the byte below 0", "/:", -100);
        told("the byte above 9", "5::", -102);
        told("the byte below 0 in a GRAVE", "+/a", -101);
        told("the byte above 9 in a GRAVE", "+:a", -101);
        told("the byte below a", "1:`", -102);
        told("the first letter", "1:a", 1);
        told("the last letter", "1:z", 1);
        told("the byte above z", "1:{", -102);
        told("the byte below a in a NAME", "1:a`", -103);
        told("the byte above z in a NAME", "1:a{", -103);
        told("a letter A", "1:A", -102);
        told("a letter Z", "1:aZ", -103);
        told("a figure in a NAME", "1:a1", -103);
        told("the byte below +", "*0a", -100);
        told("the byte between + and -", ",0a", -100);
        told("the byte above -", ".0a", -100);
        told("the byte below ;", "1::2:", -102);
        told("the byte above ;", "1:<2:", -102);
    }

    private static void namesOfOneToSix() {
        told("one letter", "1:q", 1);
        told("six letters", "1:qwerty", 1);
        told("a 7th letter", "1:qwertyu", -108);
        told("a 7th letter of the second NAME", "1:q,qwertyu", -110);
        told("a 7th letter behind +", "1:;+0qwertyu", -111);
        told("a 7th letter behind -", "1:;-0qwertyu", -111);
        told("an 8th letter is not the first", "1:qwertyui", -108);
        told("six letters behind +", "1:;+0qwerty", 2);
        told("no NAMES", "1:", 1);
        told("no NAME behind a ,", "1:,", -102);
        told("no NAME between two ,", "1:a,,b", -104);
        told("no NAME behind +", "1:;+0;", -105);
        told("two NAMES behind +", "1:;+0a,b", -106);
        told("eight NAMES", "1:a,b,c,d,e,f,g,h", 1);
    }

    private static void oneStatementAtLeast() {
        told("no STATEMENT", "", -100);
        told("a ; alone", ";", -100);
        told("a ; ahead", ";1:", -100);
        told("two ; between", "1:;;2:", -103);
        told("a ; behind", "1:;", -103);
        told("one", "1:", 1);
        told("two", "1:;2:", 2);
        told("two without a ;", "1:2:", -102);
        told("two without a ; behind a NAME", "1:a+0b", -103);
        told("25 in a hundred bytes", "111:" + ";+0a".repeat(24), 25);
        told("a 26th that ends too early", "1:" + ";+0a".repeat(24) + ";+", -200);
    }

    private static void graveIsOneDigit() {
        told("no digit", "1:;+a", -104);
        told("a digit", "1:;+0a", 2);
        told("a second digit", "1:;+00a", -105);
        told("the greatest digit is a GRAVE's", "1:;+9a", -303);
        told("a sign more", "1:;+-0a", -104);
        told("a : behind it", "1:;+0:", -105);
    }

    private static void noBlanks() {
        told("a blank ahead", " 1:", -100);
        told("a blank in an AGE", "1 2:", -101);
        told("a blank ahead of :", "1 :", -101);
        told("a blank behind :", "1: a", -102);
        told("a blank ahead of ,", "1:a ,b", -103);
        told("a blank behind ,", "1:a, b", -104);
        told("a blank ahead of ;", "1: ;2:", -102);
        told("a blank behind ;", "1:; 2:", -103);
        told("a blank behind +", "1:;+ 0a", -104);
        told("a blank behind the GRAVE", "1:;+0 a", -105);
        told("a blank at the end", "1:a ", -103);
        told("a blank alone", " ", -100);
    }

    private static void endsTooEarly() {
        told("ends behind one figure", "1", -101);
        told("ends behind three figures", "123", -103);
        told("ends behind a ,", "1:a,", -104);
        told("ends behind a ;", "1:a;", -104);
        told("ends behind +", "1:;+", -104);
        told("ends behind -", "-", -101);
        told("ends behind the GRAVE", "1:;-0", -105);
        told("ends in a second AGE", "1:;22", -105);
        told("ends just right behind :", "1:;22:", 2);
        told("ends just right in a NAME", "1:;-0a", 2);
    }

    private static void lastPlaceOfTheTape() {
        told("a hundred bytes", HUNDRED, 4);
        told("a wrong byte at the last place", HUNDRED.substring(0, 99) + "!", -199);
        told("a hundred bytes end too early behind ,", HUNDRED.substring(0, 99) + ",", -200);
        told("a hundred bytes end too early behind ;", HUNDRED.substring(0, 99) + ";", -200);
        told("99 bytes end too early", HUNDRED.substring(0, 98) + ",", -199);
        told("what begins at place 97 can't be done", HUNDRED.substring(0, 89) + ";40:;5:;+9a", -397);
        told("what begins at place 90 can't be done", HUNDRED.substring(0, 99) + "e", -390);
    }

    private static void noSuchGrave() {
        told("no GRAVE at all", "+0a", -300);
        told("no GRAVE at all, by -", "-0a", -300);
        told("the GRAVE that came ahead", "1:;+0a", 2);
        told("the GRAVE behind it", "1:;+1a", -303);
        told("the GRAVE that comes behind", "+0a;1:", -300);
        told("the last of seven", "1:;1:;1:;1:;1:;1:;1:;+6a", 8);
        told("behind the last of seven", "1:;1:;1:;1:;1:;1:;1:;+7a", -321);
        FindOrder x = Check.told("1:;2:");
        x.drop(0);
        CHECK.due("28: a dropped one", Check.tell(x, "+1a"), -300);
        CHECK.due("28: the one that is left", Check.tell(x, "+0a"), 1);
    }

    private static void noRoomForAGrave() {
        told("seven GRAVES", "1:;2:;3:;4:;5:;6:;7:", 7);
        told("an eighth GRAVE", "1:;2:;3:;4:;5:;6:;7:;8:", -321);
        told("an eighth with a NAME", "1:;2:;3:;4:;5:;6:;7:;8:a", -321);
        told("an eighth with two NAMES", "1:;2:;3:;4:;5:;6:;7:;8:a,b", -321);
        told("an eighth, and one behind it", "1:;2:;3:;4:;5:;6:;7:;8:;+0a", -321);
        FindOrder x = Check.told("1:;2:;3:;4:;5:;6:;7:");
        CHECK.due("28: no room for one more", Check.tell(x, "8:"), -300);
        CHECK.due("28: a NAME has room", Check.tell(x, "+6a;8:"), -304);
        x.drop(6);
        CHECK.due("28: room for one", Check.tell(x, "8:"), 1);
        CHECK.due("28: and no more", Check.tell(x, "9:"), -300);
    }

    private static void noRoomForAName() {
        told("eight NAMES of one", "1:a,b,c,d,e,f,g,h", 1);
        told("nine NAMES of one", "1:a,b,c,d,e,f,g,h,i", -300);
        told("a ninth, and old ones behind it", "1:a,b,c,d,e,f,g,h;2:i,a,b", -318);
        told("a ninth of another", "1:a,b,c,d,e,f,g,h;2:i", -318);
        told("a ninth by +", "1:a,b,c,d,e,f,g,h;+0i", -318);
        told("a ninth by -", "1:a,b,c,d,e,f,g,h;-0i", -318);
        told("an old one by -", "1:a,b,c,d,e,f,g,h;-0h", 2);
        told("an old one of another", "1:a,b,c,d,e,f,g,h;2:h", 2);
        told("the eighth by -", "1:a,b,c,d,e,f,g;-0h", 2);
        told("the ninth by - behind it", "1:a,b,c,d,e,f,g;-0h;-0i", -320);
        FindOrder x = Check.told("1:a,b,c,d,e,f,g,h");
        x.drop(0);
        CHECK.due("28: TYPES stay, so there is no room", Check.tell(x, "1:i"), -300);
        CHECK.due("28: their NAMES have room", Check.tell(x, "1:h,g,f,e,d,c,b,a"), 1);
    }

    private static void oneNameTwice() {
        told("twice", "1:a,a", -300);
        told("the first and the last", "1:a,b,a", -300);
        told("of six letters", "1:abcdef,abcdef", -300);
        told("what is another's beginning is another", "1:a,ab,abc", 1);
        told("in two STATEMENTS", "1:a;2:a", 2);
        told("twice by +", "1:;+0a;+0a", 3);
        told("twice by -", "1:;-0a;-0a", 3);
        told("twice in the second", "1:a;2:b,b", -304);
        told("twice, and another one behind", "1:a,a,b", -300);
        told("twice, and others between and behind", "1:a,b,a,c", -300);
        FindOrder x = Check.told("1:a");
        CHECK.due("28: an old NAME twice", Check.tell(x, "2:a,a"), -300);
        CHECK.due("28: no GRAVE came by it", x.count(0), 1);
    }

    private static void firstFaultIsTold() {
        told("a wrong byte is told ahead of what can't be done", "+0a;1:!", -106);
        told("too early an end is told ahead of what can't be done", "+0a;1", -105);
        told("the first STATEMENT that can't be done", "1:;+9a;2:b,b;+8c", -303);
        told("the first of two wrong bytes", "1:!;2:!", -102);
        told("those behind what can't be done are not asked", "+1a;1:;2:", -300);
    }

    private static void nothingIsDone() {
        FindOrder x = Check.told("1:a;2:b");
        String[] texts = {"3:c;+0b;-1b;+9a", "3:c;+0b;-1b;!", "3:c;+0b;-1b;", "3:c,d,e,f,g,h,i", "3:c,c"};
        int[] due = {-312, -112, -112, -300, -300};
        for (int i = 0; i < texts.length; i++) {
            CHECK.due("28: the FAULT of " + texts[i], Check.tell(x, texts[i]), due[i]);
            CHECK.due("28: GRAVES after " + texts[i], x.count(0), 2);
            CHECK.due("28: TYPES after " + texts[i], x.count(1), 2);
            CHECK.due("28: the set of 0 after " + texts[i], x.of(0, 1), 1);
            CHECK.due("28: the set of 1 after " + texts[i], x.of(1, 1), 2);
            CHECK.due("28: THE TAPE after " + texts[i], x.count(3), 0);
            CHECK.due("28: TEXTS after " + texts[i], x.count(4), 1);
            CHECK.due("28: there is no TYPE 2 after " + texts[i], x.type(2, 1), NONE);
        }
        Check.tell(x, "+0z");
        CHECK.due("28: the next NAME is TYPE 2", x.type(2, 2), 'z');
    }

    private static void whatATextDoes() {
        FindOrder x = new FindOrder();
        CHECK.due("28: how many STATEMENTS", Check.tell(x, "1:b,a;+0c;-0b;-0d;-0d;+0c"), 6);
        CHECK.due("28: NAMES come in the order in which they are told", x.type(0, 2), 'b');
        CHECK.due("28: it has a and c", x.of(0, 1), 2 + 4);
        CHECK.due("28: d came by -", x.type(3, 2), 'd');
        CHECK.due("28: and nobody has it", x.type(3, 0), 0);
        CHECK.due("7: TEXTS done", x.count(4), 1);
        CHECK.due("28: an empty one is no TEXT", x.read(), -100);
        CHECK.due("7: TEXTS done still", x.count(4), 1);
    }

    private static void paperRefuses() {
        FindOrder x = Check.told("1:a");
        int[] wrong = {LEAST, -1, 3, 4, GREATEST};
        for (int i : wrong) {
            CHECK.due("30: no byte " + i, x.paper(i), NONE);
            CHECK.due("30: nobody, byte " + i, new FindOrder().paper(i), NONE);
        }
        CHECK.due("30: the first byte", x.paper(0), '1');
        CHECK.due("30: the last byte", x.paper(2), 'a');
        CHECK.due("30: nobody, byte 0", new FindOrder().paper(0), NONE);
    }

    private static void isPaper(String why, FindOrder x, String due) {
        CHECK.due("29: " + why + ", " + due, x.spell(), due.length());
        CHECK.due("30: " + why + ", " + due, Check.paper(x).equals(due) ? 1 : 0, 1);
        CHECK.due("30: behind " + due, x.paper(due.length()), NONE);
    }

    private static void paperOfAges() {
        isPaper("AGE 0 is one figure", Check.told("0:"), "0:");
        isPaper("no 0 ahead of a figure", Check.told("000:;001:;010:;100:"), "0:;1:;10:;100:");
        isPaper("one to three figures", Check.told("9:;10:;99:;100:;999:"), "9:;10:;99:;100:;999:");
        isPaper("a 0 within", Check.told("101:;110:;500:"), "101:;110:;500:");
        FindOrder x = new FindOrder();
        x.grave(0);
        x.grave(999);
        isPaper("by grave, too", x, "0:;999:");
    }

    private static void paperOfNames() {
        isPaper("the lesser first", Check.told("0:c,b,a"), "0:a,b,c");
        isPaper("what is another's beginning is ahead", Check.told("0:abc,ab,a,aaaaaa"), "0:a,aaaaaa,ab,abc");
        isPaper("the first letter counts most", Check.told("0:b,az,zaaaaa,azzzzz"), "0:az,azzzzz,b,zaaaaa");
        isPaper("the last letter counts", Check.told("0:aaaaab,aaaaaa,aaaaz,aaaaa"), "0:aaaaa,aaaaaa,aaaaab,aaaaz");
        isPaper("none between : and ;", Check.told("1:;2:a;3:"), "1:;2:a;3:");
        isPaper("those of its own alone", Check.told("0:b,d;0:a,c"), "0:b,d;0:a,c");
        isPaper("no NAME that nobody has", Check.told("0:b;-0a;+0c;-0b"), "0:c");
    }

    private static void paperOfNobodyAndOfAll() {
        isPaper("nobody", new FindOrder(), "");
        FindOrder x = Check.told("0:aaaaaa,bbbbbb,cccccc,dddddd,eeeeee,ffffff,gggggg,hhhhhh");
        isPaper("of one the most", x, "0:aaaaaa,bbbbbb,cccccc,dddddd,eeeeee,ffffff,gggggg,hhhhhh");
        x.drop(0);
        isPaper("nobody, TYPES alone", x, "");
        for (int g = 0; g < 7; g++) {
            x.grave(999);
            for (int t = 0; t < 8; t++) {
                x.has(g, t, 1);
            }
        }
        CHECK.due("29: the most that there is", x.spell(), 7 * (4 + 8 * 7 - 1) + 6);
        CHECK.due("30: its last byte", x.paper(418), 'h');
        CHECK.due("30: behind it", x.paper(419), NONE);
        FindOrder text = Check.told(HUNDRED);
        FindOrder again = Check.told(Check.paper(text));
        isPaper("a PAPER of a hundred bytes is a TEXT that tells the same", again, Check.paper(text));
    }
}
