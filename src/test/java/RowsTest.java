import java.util.Random;

/** Full sites of six and seven graves, most of which have gapless orders, on the class and on the model. */
final class RowsTest {
    private static final Check CHECK = new Check("RowsTest");
    private static final int SITES = 60;

    private final Random random;
    private final FindOrder real = new FindOrder();
    private final Model model = new Model();
    private final String name;
    private final int graves;
    private final int types;

    private RowsTest(int number) {
        random = new Random(number);
        name = "site " + number + ", ";
        graves = number % 3 == 0 ? 7 : 6;
        types = 1 + random.nextInt(8);
    }

    public static void main(String[] args) {
        for (int number = 0; number < SITES; number++) {
            RowsTest site = new RowsTest(number);
            site.make(number % 4 == 3);
            site.askOrders();
            site.askTree();
            site.askEnds();
        }
        CHECK.end();
    }

    private void due(String call, long got, long want) {
        CHECK.due(name + call, got, want);
    }

    /** Each type lies in a stretch of a hidden row; a bent one may lie elsewhere, too. */
    private void make(boolean isBent) {
        StringBuilder text = new StringBuilder("0:a");
        for (int t = 1; t < types; t++) {
            text.append(',').append((char) ('a' + t));
        }
        for (char letter : text.toString().toCharArray()) {
            real.feed(letter);
            model.feed(letter);
        }
        due("28: read", real.read(), model.read());
        due("6: drop", real.drop(0), model.drop(0));
        int[] row = new int[graves];
        for (int i = 0; i < graves; i++) {
            int age = random.nextInt(4) * 100;
            due("2: grave", real.grave(age), model.grave(age));
            int at = random.nextInt(i + 1);
            row[i] = row[at];
            row[at] = i;
        }
        for (int t = 0; t < types; t++) {
            int from = random.nextInt(graves);
            int to = Math.min(graves, from + 1 + random.nextInt(4));
            for (int i = from; i < to; i++) {
                due("3: has", real.has(row[i], t, 1), model.has(row[i], t, 1));
            }
            if (isBent && random.nextInt(3) == 0) {
                int g = random.nextInt(graves);
                due("3: has, bent", real.has(g, t, 1), model.has(g, t, 1));
            }
        }
    }

    private void askOrders() {
        int most = random.nextInt(12);
        due("8: orders(" + most + ")", real.orders(most), model.orders(most));
        for (int what = 0; what <= 2; what++) {
            due("10: fewest(" + what + ")", real.fewest(what), model.fewest(what));
            due("16: spoils(" + what + ")", real.spoils(what), model.spoils(what));
        }
        for (int i = 0; i < 8; i++) {
            int number = i < 4 ? i : random.nextInt(40);
            int order = model.gapless(number);
            due("9: gapless(" + number + ")", real.gapless(number), order);
            int other = i < 4 ? model.walk(i) : model.chain(i - 4);
            due("23: an ORDER", i < 4 ? real.walk(i) : real.chain(i - 4), other);
            due("25: rank(" + order + ")", real.rank(order), model.rank(order));
            due("25: rank(" + other + ")", real.rank(other), model.rank(other));
            due("18: runs(" + other + ")", real.runs(other), model.runs(other));
        }
        due("20: kin(0)", real.kin(0), model.kin(0));
        due("20: kin(1)", real.kin(1), model.kin(1));
        due("7: PARTS", real.count(2), model.count(2));
    }

    private void askTree() {
        due("12: clusters", real.clusters(), model.clusters());
        due("15: told", real.told(), model.told());
        for (int what = 0; what <= 2; what++) {
            due("13: knots(" + what + ")", real.knots(what), model.knots(what));
        }
        int many = model.knots(0);
        for (int i = 0; i <= many; i++) {
            for (int what = 0; what <= 4; what++) {
                due("14: knot(" + i + ", " + what + ")", real.knot(i, what), model.knot(i, what));
            }
        }
    }

    private void askEnds() {
        for (int i = 0; i < 4; i++) {
            int first = random.nextInt(graves);
            int last = (first + 1 + random.nextInt(graves - 1)) % graves;
            for (int what = 0; what <= 2; what++) {
                due("11: ends(" + first + ", " + last + ", " + what + ")", real.ends(first, last, what),
                    model.ends(first, last, what));
            }
        }
    }
}
