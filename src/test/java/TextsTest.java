/** Promises 27 to 30: feed, read, spell, paper. */
final class TextsTest {
    private static final Check CHECK = new Check("TextsTest");

    public static void main(String[] args) {
        feed();
        readTells();
        flaws();
        stuck();
        nothingIsDoneByFault();
        paper();
        CHECK.end();
    }

    private static void feed() {
        FindOrder x = new FindOrder();
        CHECK.due("27: 128", x.feed(128), FindOrder.BAD);
        CHECK.due("27: -1", x.feed(-1), FindOrder.BAD);
        CHECK.due("27: none came", x.count(3), 0);
        CHECK.due("27: 0", x.feed(0), 1);
        CHECK.due("27: 127", x.feed(127), 2);
        for (int i = 3; i <= 100; i++) {
            CHECK.due("27: byte " + i, x.feed('a'), i);
        }
        CHECK.due("27: full", x.feed('a'), FindOrder.FULL);
        CHECK.due("27: full, bad", x.feed(128), FindOrder.BAD);
        CHECK.due("27: a hundred", x.count(3), 100);
        CHECK.due("28: byte 0 is the fault", x.read(), -100);
        CHECK.due("27: empty again", x.feed('a'), 1);
    }

    private static void readTells() {
        FindOrder x = new FindOrder();
        CHECK.due("28: statements", Check.tell(x, "12:ab,c;007:;999:c,dddddd;-1ab;+1c;-2c;-0zz"), 7);
        CHECK.due("28: tape", x.count(3), 0);
        CHECK.due("28: age 12", x.of(0, 0), 12);
        CHECK.due("28: age 7", x.of(1, 0), 7);
        CHECK.due("28: age 999", x.of(2, 0), 999);
        CHECK.due("28: set 0", x.of(0, 1), 3);
        CHECK.due("28: set 1", x.of(1, 1), 2);
        CHECK.due("28: set 2", x.of(2, 1), 4);
        CHECK.due("28: a type comes by -", x.count(1), 4);
        CHECK.due("28: its letter", x.type(3, 2), 'z');
        CHECK.due("28: orders before", x.orders(0), 4);
        CHECK.due("28: knots before", x.knots(0), 5);
        CHECK.due("28: paper before", x.spell(), "12:ab,c;7:c;999:dddddd".length());
        CHECK.due("28: by + too", Check.tell(x, "+0nn"), 1);
        CHECK.due("28: set with it", x.of(0, 1), 19);
        Check.tell(x, "+2c");
        CHECK.due("28: orders are made again", x.orders(0), 6);
        CHECK.due("28: knots are made again", x.knots(0), 4);
        CHECK.due("28: paper is made again", x.spell(), "12:ab,c,nn;7:c;999:c,dddddd".length());
    }

    private static void flaws() {
        String[] texts = {"", "1", "12", "123", "1234:", "1:,", "1:a,", "1:a,;", "1:a;", "1:;;", ";", ":", "a", "1:a b",
            " 1:", "1:abcdefg", "1:abcdef,ghijkl,mnopqrs", "+", "+a", "+0", "+01a", "+0a,b", "+0abcdefg", "-", "-9;",
            "+0a;-", "1:a+0a", "1:A", "1:a:b", "2-0a", "1:a,b,", "+0a ", "+0a;x"};
        int[] places = {0, 1, 2, 3, 3, 2, 4, 4, 4, 3, 0, 0, 0, 3,
            0, 8, 22, 1, 1, 2, 2, 3, 8, 1, 2,
            5, 3, 2, 3, 1, 6, 3, 4};
        for (int i = 0; i < texts.length; i++) {
            FindOrder x = Check.told("1:");
            CHECK.due("28: flaw of '" + texts[i] + "'", Check.tell(x, texts[i]), -100 - places[i]);
            CHECK.due("28: the tape is empty", x.count(3), 0);
        }
        FindOrder x = new FindOrder();
        CHECK.due("28: a flaw behind what can't be done", Check.tell(x, "+0a;1:!"), -106);
        StringBuilder full = new StringBuilder("1:");
        for (int i = 0; i < 14; i++) {
            full.append("abcdef,");
        }
        String early = full.substring(0, 85) + ";1:aaa,bbb,ccc,";
        CHECK.due("28: a full tape that ends too early", Check.tell(x, early), -200);
    }

    private static void stuck() {
        FindOrder x = Check.told("1:a;2:b");
        CHECK.due("28: no such grave", Check.tell(x, "+2a"), -300);
        CHECK.due("28: no such grave, second", Check.tell(x, "+1a;-9a;+8b"), -304);
        CHECK.due("28: the first of two", Check.tell(x, "+9a;+9b;1:a"), -300);
        CHECK.due("28: a grave that came ahead", Check.tell(x, "3:;+2a"), 2);
        CHECK.due("28: twice in it", Check.tell(x, "3:;44:x,y,x;5:"), -303);
        CHECK.due("28: twice in two", Check.tell(x, "3:x,y;4:y,x"), 2);
        CHECK.due("28: no room", Check.tell(x, "3:;4:;5:;6:"), -306);
        CHECK.due("28: just room", Check.tell(x, "3:;4:"), 2);
        CHECK.due("28: full", Check.tell(x, "+0a;3:;+9x"), -304);
        CHECK.due("28: eight names", Check.tell(x, "+0c;-0d;+0e;+1f"), 4);
        CHECK.due("28: a ninth", Check.tell(x, "+0a;+0g"), -304);
        CHECK.due("28: a ninth by -", Check.tell(x, "-0g"), -300);
        x.drop(0);
        CHECK.due("28: a ninth in a grave", Check.tell(x, "+0b;5:a,g"), -304);
        CHECK.due("28: none came", x.count(0), 6);
        CHECK.due("28: an old name has room", Check.tell(x, "5:a,b,c,d,e,f,x,y"), 1);
        CHECK.due("28: all of them", x.of(6, 1), 255);
    }

    private static void nothingIsDoneByFault() {
        FindOrder x = Check.told("1:a;2:b");
        Check.tell(x, "3:q;-0a;+9a");
        CHECK.due("28: no grave came", x.count(0), 2);
        CHECK.due("28: no type came", x.count(1), 2);
        CHECK.due("28: no set changed", x.of(0, 1), 1);
        CHECK.due("28: no text done", x.count(4), 1);
        Check.tell(x, "3:q;-0a;");
        CHECK.due("28: no grave came by a flaw", x.count(0), 2);
        CHECK.due("28: no set changed by a flaw", x.of(0, 1), 1);
        CHECK.due("28: its name stays", x.type(1, 2), 'b');
    }

    private static void paper() {
        FindOrder x = Check.told("0:pot,po,axe;07:b,ab,abc,aa;100:;999:zzzzzz");
        String due = "0:axe,po,pot;7:aa,ab,abc,b;100:;999:zzzzzz";
        CHECK.due("29: spell()", x.spell(), due.length());
        for (int i = 0; i < due.length(); i++) {
            CHECK.due("30: paper(" + i + ")", x.paper(i), due.charAt(i));
        }
        CHECK.due("30: behind it", x.paper(due.length()), FindOrder.NONE);
        CHECK.due("30: -1", x.paper(-1), FindOrder.NONE);
        x.drop(1);
        CHECK.due("29: after drop", x.spell(), due.length() - 14);
        x.has(1, 0, 1);
        CHECK.due("29: after has", x.spell(), due.length() - 14 + 3);
        x.grave(10);
        CHECK.due("29: after grave", x.spell(), due.length() - 14 + 3 + 4);
        CHECK.due("30: its age", x.paper(x.spell() - 3), '1');
        CHECK.due("29: nobody", new FindOrder().spell(), 0);
        CHECK.due("30: nobody", new FindOrder().paper(0), FindOrder.NONE);
        FindOrder ages = Check.told("9:;10:;99:;100:");
        CHECK.due("30: figures of ages", Check.paper(ages).equals("9:;10:;99:;100:") ? 1 : 0, 1);
        FindOrder most = new FindOrder();
        Check.tell(most, "0:aaaaaa,bbbbbb,cccccc,dddddd,eeeeee,ffffff,gggggg,hhhhhh");
        most.drop(0);
        for (int g = 0; g < 7; g++) {
            most.grave(999);
            for (int t = 0; t < 8; t++) {
                most.has(g, t, 1);
            }
        }
        CHECK.due("29: the most", most.spell(), 7 * 59 + 6);
        CHECK.due("30: the last byte", most.paper(418), 'h');
        CHECK.due("30: behind the most", most.paper(419), FindOrder.NONE);
    }
}
