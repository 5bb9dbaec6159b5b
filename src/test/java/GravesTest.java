/** Promises 1 to 7: a new object, grave, has, of, type, drop, count. */
final class GravesTest {
    private static final Check CHECK = new Check("GravesTest");

    public static void main(String[] args) {
        newObject();
        grave();
        has();
        of();
        type();
        drop();
        count();
        CHECK.end();
    }

    private static void newObject() {
        FindOrder x = new FindOrder();
        for (int what = 0; what <= 5; what++) {
            CHECK.due("1: count(" + what + ")", x.count(what), 0);
        }
        CHECK.due("1: of(0, 0)", x.of(0, 0), FindOrder.NONE);
        CHECK.due("1: type(0, 0)", x.type(0, 0), FindOrder.NONE);
        CHECK.due("1: undo()", x.undo(), FindOrder.STATE);
        CHECK.due("1: laid", x.lay(0, 0), FindOrder.NONE);
        CHECK.due("1: list missing", x.put(0, 0, 0), -11);
        CHECK.due("1: spell()", x.spell(), 0);
        x.grave(1);
        CHECK.due("1: tray missing", x.lay(0, 0), -11);
        CHECK.due("1: objects are apart", new FindOrder().count(0), 0);
    }

    private static void grave() {
        FindOrder x = new FindOrder();
        CHECK.due("2: too young", x.grave(-1), FindOrder.BAD);
        CHECK.due("2: too old", x.grave(1000), FindOrder.BAD);
        CHECK.due("2: none came", x.count(0), 0);
        CHECK.due("2: first", x.grave(0), 0);
        CHECK.due("2: second", x.grave(999), 1);
        CHECK.due("2: age 0", x.of(0, 0), 0);
        CHECK.due("2: age 999", x.of(1, 0), 999);
        CHECK.due("2: without types", x.of(1, 1), 0);
        for (int i = 2; i < 7; i++) {
            CHECK.due("2: grave " + i, x.grave(i), i);
        }
        CHECK.due("2: an eighth", x.grave(7), FindOrder.FULL);
        CHECK.due("2: a bad eighth", x.grave(1000), FindOrder.BAD);
        CHECK.due("2: seven", x.count(0), 7);
        CHECK.due("2: orders of seven", x.orders(0), 5040);
        Check.tell(x, "+6a");
        x.drop(6);
        CHECK.due("2: again", x.grave(3), 6);
        CHECK.due("2: the new one is without types", x.of(6, 1), 0);
    }

    private static void has() {
        FindOrder x = Check.told("1:a,b;2:b");
        CHECK.due("3: new", x.has(1, 0, 1), 0);
        CHECK.due("3: again", x.has(1, 0, 1), 1);
        CHECK.due("3: set", x.of(1, 1), 3);
        CHECK.due("3: off", x.has(1, 1, 0), 1);
        CHECK.due("3: off again", x.has(1, 1, 0), 0);
        CHECK.due("3: set after", x.of(1, 1), 1);
        CHECK.due("3: other grave", x.of(0, 1), 3);
        CHECK.due("3: no grave 2", x.has(2, 0, 1), FindOrder.NONE);
        CHECK.due("3: no grave -1", x.has(-1, 0, 1), FindOrder.NONE);
        CHECK.due("3: no type 2", x.has(0, 2, 1), FindOrder.NONE);
        CHECK.due("3: no type -1", x.has(0, -1, 1), FindOrder.NONE);
        CHECK.due("3: no type, bad is", x.has(0, 2, 5), FindOrder.NONE);
        CHECK.due("3: is 2", x.has(0, 0, 2), FindOrder.BAD);
        CHECK.due("3: is -1", x.has(0, 0, -1), FindOrder.BAD);
        CHECK.due("3: nothing changed", x.of(0, 1), 3);
        CHECK.due("3: orders before", x.orders(0), 2);
        x.grave(5);
        CHECK.due("3: a holds 0, 1", x.orders(0), 4);
        x.has(2, 1, 1);
        CHECK.due("3: b holds 0, 2", x.orders(0), 2);
    }

    private static void of() {
        FindOrder x = Check.told("4:a,b;104:b,a;204:a;4:a,b;5:c;404:");
        CHECK.due("4: age", x.of(1, 0), 104);
        CHECK.due("4: set", x.of(1, 1), 3);
        CHECK.due("4: set c", x.of(4, 1), 4);
        CHECK.due("4: peers", x.of(0, 2), 3);
        CHECK.due("4: peers of 1", x.of(1, 2), 3);
        CHECK.due("4: other set", x.of(2, 2), 1);
        CHECK.due("4: others", x.of(0, 3), 3);
        CHECK.due("4: others of 2", x.of(2, 3), 3);
        CHECK.due("4: no others", x.of(4, 3), 0);
        CHECK.due("4: none of nothing", x.of(5, 3), 0);
        CHECK.due("4: what 4", x.of(0, 4), FindOrder.NONE);
        CHECK.due("4: what -1", x.of(0, -1), FindOrder.NONE);
        CHECK.due("4: no grave 6", x.of(6, 0), FindOrder.NONE);
        CHECK.due("4: no grave -1", x.of(-1, 0), FindOrder.NONE);
    }

    private static void type() {
        FindOrder x = Check.told("1:abcxyz,z;2:z;3:q,z");
        CHECK.due("5: bits", x.type(1, 0), 7);
        CHECK.due("5: bits of q", x.type(2, 0), 4);
        CHECK.due("5: letters", x.type(0, 1), 6);
        CHECK.due("5: one letter", x.type(1, 1), 1);
        String name = "abcxyz";
        for (int i = 0; i < 6; i++) {
            CHECK.due("5: letter " + i, x.type(0, i + 2), name.charAt(i));
        }
        CHECK.due("5: letter of z", x.type(1, 2), 'z');
        CHECK.due("5: no second letter", x.type(1, 3), FindOrder.NONE);
        CHECK.due("5: no sixth letter", x.type(1, 7), FindOrder.NONE);
        CHECK.due("5: what 8", x.type(0, 8), FindOrder.NONE);
        CHECK.due("5: what -1", x.type(0, -1), FindOrder.NONE);
        CHECK.due("5: no type 3", x.type(3, 0), FindOrder.NONE);
        CHECK.due("5: no type -1", x.type(-1, 0), FindOrder.NONE);
        x.drop(0);
        CHECK.due("5: stays", x.type(0, 0), 0);
        CHECK.due("5: its name stays", x.type(0, 7), 'z');
    }

    private static void drop() {
        FindOrder x = Check.told("1:a;2:b;3:a,c");
        CHECK.due("6: no grave 3", x.drop(3), FindOrder.NONE);
        CHECK.due("6: no grave -1", x.drop(-1), FindOrder.NONE);
        CHECK.due("6: orders before", x.orders(0), 4);
        CHECK.due("6: drop(1)", x.drop(1), 2);
        CHECK.due("6: age moved", x.of(1, 0), 3);
        CHECK.due("6: set moved", x.of(1, 1), 5);
        CHECK.due("6: bits moved", x.type(2, 0), 2);
        CHECK.due("6: types stay", x.count(1), 3);
        CHECK.due("6: orders after", x.orders(0), 2);
        CHECK.due("6: drop last", x.drop(1), 1);
        CHECK.due("6: it is none", x.of(1, 0), FindOrder.NONE);
        CHECK.due("6: drop(0)", x.drop(0), 0);
        CHECK.due("6: nobody", x.drop(0), FindOrder.NONE);
    }

    private static void count() {
        FindOrder x = Check.told("1:a,b;2:c;3:b,d;4:;5:d;6:");
        CHECK.due("7: graves", x.count(0), 6);
        CHECK.due("7: types", x.count(1), 4);
        CHECK.due("7: parts", x.count(2), 4);
        CHECK.due("7: tape", x.count(3), 0);
        CHECK.due("7: texts", x.count(4), 1);
        CHECK.due("7: bare", x.count(5), 2);
        CHECK.due("7: what 6", x.count(6), FindOrder.BAD);
        CHECK.due("7: what -1", x.count(-1), FindOrder.BAD);
        x.feed('x');
        x.feed('y');
        CHECK.due("7: tape of two", x.count(3), 2);
        x.read();
        CHECK.due("7: a fault is no text", x.count(4), 1);
        CHECK.due("7: tape after", x.count(3), 0);
        Check.tell(x, "+1d");
        CHECK.due("7: texts of two", x.count(4), 2);
        CHECK.due("7: a part less", x.count(2), 3);
        FindOrder one = Check.told("1:");
        CHECK.due("7: one part", one.count(2), 1);
        CHECK.due("7: one bare", one.count(5), 1);
        FindOrder far = Check.told("0:a,b;0:c,d;0:e,f;0:f,a;0:d,e;0:b,g;0:g,c");
        CHECK.due("7: parts one by one", far.count(2), 1);
    }
}
