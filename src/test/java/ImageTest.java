/** Promises 39 and 40: image, undo. */
final class ImageTest {
    private static final Check CHECK = new Check("ImageTest");

    public static void main(String[] args) {
        laidBack();
        stays();
        takenAgain();
        CHECK.end();
    }

    private static void laidBack() {
        FindOrder x = new FindOrder();
        CHECK.due("40: none", x.undo(), FindOrder.STATE);
        Check.tell(x, "1:a;2:b;3:a,b");
        CHECK.due("40: still none", x.undo(), FindOrder.STATE);
        CHECK.due("40: nothing changed", x.count(0), 3);
        CHECK.due("39: image", x.image(), 3);
        CHECK.due("39: nothing changed", x.gapless(1), 231);
        x.drop(0);
        x.has(0, 0, 1);
        Check.tell(x, "+0zz;5:q");
        CHECK.due("40: types before", x.count(1), 4);
        x.spell();
        x.clusters();
        CHECK.due("40: undo", x.undo(), 3);
        CHECK.due("40: types", x.count(1), 2);
        CHECK.due("40: the type is none", x.type(2, 1), FindOrder.NONE);
        CHECK.due("40: age", x.of(0, 0), 1);
        CHECK.due("40: set", x.of(1, 1), 2);
        CHECK.due("40: orders", x.gapless(1), 231);
        CHECK.due("40: knots", x.knots(2), 1);
        CHECK.due("40: paper", x.spell(), "1:a;2:b;3:a,b".length());
        x.drop(2);
        CHECK.due("40: again", x.undo(), 3);
        Check.tell(x, "+0new");
        CHECK.due("40: a number for another name", x.type(2, 2), 'n');
    }

    private static void stays() {
        FindOrder x = Check.told("1:a");
        x.image();
        x.tray(0, 1);
        x.lay(0, 0);
        x.list(0, 2);
        x.put(0, 1, 5);
        Check.tell(x, "2:");
        x.feed('1');
        CHECK.due("40: undo", x.undo(), 1);
        CHECK.due("40: tray stays", x.laid(0, 0), 1);
        CHECK.due("40: list stays", x.get(0, 1), 5);
        CHECK.due("40: tape stays", x.count(3), 1);
        CHECK.due("40: texts stay", x.count(4), 2);
    }

    private static void takenAgain() {
        FindOrder x = new FindOrder();
        CHECK.due("39: nobody", x.image(), 0);
        x.grave(1);
        CHECK.due("40: nobody", x.undo(), 0);
        x.grave(1);
        x.grave(2);
        CHECK.due("39: two", x.image(), 2);
        x.grave(3);
        CHECK.due("40: two", x.undo(), 2);
    }
}
