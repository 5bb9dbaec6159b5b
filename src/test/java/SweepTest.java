import java.util.ArrayList;
import java.util.List;

/** Each call with every mixture of least, greatest and near wrong arguments, on the class and on the model. */
final class SweepTest {
    private static final Check CHECK = new Check("SweepTest");
    /** An object answers 512 calls: some are left for what makes it, and some questions are two calls. */
    private static final int MOST_CALLS = 200;
    private static final int LEAST = Integer.MIN_VALUE;
    private static final int GREATEST = Integer.MAX_VALUE;
    private static final int[] WIDE = {LEAST, LEAST + 1, -2000000000, -101, -14, -3, -2, -1, 0, 1, 2, 3, 4, 5, 6, 7, 8,
        9, 10, 11, 12, 13, 14, 15, 29, 30, 31, 32, 59, 60, 61, 62, 99, 100, 101, 127, 128, 129, 255, 256, 998, 999,
        1000, 1001, 5039, 5040, GREATEST - 1, GREATEST};
    private static final int[] NARROW = {LEAST, -2, -1, 0, 1, 2, 3, 4, 6, 7, 8, 30, GREATEST};
    private static final String[] TEXTS = {"", "5:a", "5:a;105:a", "1:a,b;2:b,c;3:c,a", "0:a;0:a,b;0:b;100:c;0:c;0:",
        "999:;0:a;0:;1:b;0:a,b;-0zzzzzz"};

    private interface Call {
        long on(FindOrder real, int a, int b, int c);
    }

    private interface Due {
        long on(Model model, int a, int b, int c);
    }

    private final String text;
    private FindOrder real;
    private Model model;
    private int calls;

    private SweepTest(String text) {
        this.text = text;
        renew();
    }

    public static void main(String[] args) {
        for (String text : TEXTS) {
            SweepTest sweep = new SweepTest(text);
            sweep.oneArgument();
            sweep.twoArguments();
            sweep.threeArguments();
            sweep.orders();
            sweep.changes();
        }
        CHECK.end();
    }

    private void renew() {
        calls = 0;
        real = new FindOrder();
        model = new Model();
        for (int i = 0; i < text.length(); i++) {
            real.feed(text.charAt(i));
            model.feed(text.charAt(i));
        }
        if (!text.isEmpty()) {
            real.read();
            model.read();
        }
        for (int tray = 0; tray < 3; tray++) {
            real.tray(tray, 1);
            model.tray(tray, 1);
            real.lay(tray, tray);
            model.lay(tray, tray);
        }
        real.list(0, 30);
        model.list(0, 30);
        real.list(1, 2);
        model.list(1, 2);
        real.fill(1, 0);
        model.fill(1, 0);
    }

    private void ask(String name, Call call, Due due, int a, int b, int c) {
        if (calls >= MOST_CALLS) {
            renew();
        }
        calls++;
        long got = call.on(real, a, b, c);
        long want = due.on(model, a, b, c);
        // a text for each of so many answers would take longer than the answers
        CHECK.due(got == want ? name : name + "(" + a + ", " + b + ", " + c + ") of '" + text + "'", got, want);
    }

    private void one(String name, Call call, Due due) {
        for (int a : WIDE) {
            ask(name, call, due, a, 0, 0);
        }
    }

    private void two(String name, Call call, Due due) {
        for (int a : NARROW) {
            for (int b : WIDE) {
                ask(name, call, due, a, b, 0);
            }
        }
    }

    private void three(String name, Call call, Due due) {
        for (int a : NARROW) {
            for (int b : NARROW) {
                for (int c : NARROW) {
                    ask(name, call, due, a, b, c);
                }
            }
        }
    }

    private void oneArgument() {
        one("7: count", (x, a, b, c) -> x.count(a), (m, a, b, c) -> m.count(a));
        one("8: orders", (x, a, b, c) -> x.orders(a), (m, a, b, c) -> m.orders(a));
        one("9: gapless", (x, a, b, c) -> x.gapless(a), (m, a, b, c) -> m.gapless(a));
        one("10: fewest", (x, a, b, c) -> x.fewest(a), (m, a, b, c) -> m.fewest(a));
        one("12: clusters", (x, a, b, c) -> x.clusters(), (m, a, b, c) -> m.clusters());
        one("13: knots", (x, a, b, c) -> x.knots(a), (m, a, b, c) -> m.knots(a));
        one("15: told", (x, a, b, c) -> x.told(), (m, a, b, c) -> m.told());
        one("16: spoils", (x, a, b, c) -> x.spoils(a), (m, a, b, c) -> m.spoils(a));
        one("20: kin", (x, a, b, c) -> x.kin(a), (m, a, b, c) -> m.kin(a));
        one("22: chain", (x, a, b, c) -> x.chain(a), (m, a, b, c) -> m.chain(a));
        one("23: walk", (x, a, b, c) -> x.walk(a), (m, a, b, c) -> m.walk(a));
        one("29: spell", (x, a, b, c) -> x.spell(), (m, a, b, c) -> m.spell());
        one("30: paper", (x, a, b, c) -> x.paper(a), (m, a, b, c) -> m.paper(a));
    }

    private void twoArguments() {
        two("4: of", (x, a, b, c) -> x.of(a, b), (m, a, b, c) -> m.of(a, b));
        two("5: type", (x, a, b, c) -> x.type(a, b), (m, a, b, c) -> m.type(a, b));
        two("14: knot", (x, a, b, c) -> x.knot(a, b), (m, a, b, c) -> m.knot(a, b));
        two("21: shared", (x, a, b, c) -> x.shared(a, b), (m, a, b, c) -> m.shared(a, b));
        two("33: laid", (x, a, b, c) -> x.laid(a, b), (m, a, b, c) -> m.laid(a, b));
        two("36: get", (x, a, b, c) -> x.get(a, b), (m, a, b, c) -> m.get(a, b));
        two("38: judge", (x, a, b, c) -> x.judge(a, b), (m, a, b, c) -> m.judge(a, b));
    }

    private void threeArguments() {
        three("11: ends", (x, a, b, c) -> x.ends(a, b, c), (m, a, b, c) -> m.ends(a, b, c));
        three("26: swap", (x, a, b, c) -> x.swap(x.walk(3), a, b), (m, a, b, c) -> m.swap(m.walk(3), a, b));
        three("26: swap", (x, a, b, c) -> x.swap(a, b, c), (m, a, b, c) -> m.swap(a, b, c));
    }

    /** Numbers around all that are orders, of which few are. */
    private List<Integer> someOrders() {
        List<Integer> orders = new ArrayList<>();
        for (int order : WIDE) {
            orders.add(order);
        }
        int graves = model.count(0);
        int most = (int) Math.pow(10, Math.min(graves, 3)) + 300;
        for (int order = 16; order <= most; order++) {
            orders.add(order);
        }
        for (int i = 0; i < 40; i++) {
            int order = model.gapless(i);
            for (int other = -2; other <= 2 && order > 0; other++) {
                orders.add(order + other * 9);
                orders.add(order + other);
                orders.add(order * 10 + other);
                orders.add(order - 1000000000);
            }
        }
        return orders;
    }

    private void orders() {
        for (int order : someOrders()) {
            ask("17: gaps", (x, a, b, c) -> x.gaps(a), (m, a, b, c) -> m.gaps(a), order, 0, 0);
            ask("18: runs", (x, a, b, c) -> x.runs(a), (m, a, b, c) -> m.runs(a), order, 0, 0);
            ask("19: kinship", (x, a, b, c) -> x.kinship(a), (m, a, b, c) -> m.kinship(a), order, 0, 0);
            ask("24: turned", (x, a, b, c) -> x.turned(a), (m, a, b, c) -> m.turned(a), order, 0, 0);
            ask("25: rank", (x, a, b, c) -> x.rank(a), (m, a, b, c) -> m.rank(a), order, 0, 0);
            ask("26: swap", (x, a, b, c) -> x.swap(a, 0, 1), (m, a, b, c) -> m.swap(a, 0, 1), order, 0, 0);
        }
    }

    // ---- calls that change something: each on new objects, and asked after it ----

    private void change(String name, Call call, Due due, int a, int b, int c) {
        renew();
        ask(name, call, due, a, b, c);
        String behind = " behind " + name + "(" + a + ", " + b + ", " + c + ")";
        for (int what = 0; what <= 5; what++) {
            ask("count(" + what + ")" + behind, (x, i, j, k) -> x.count(i), (m, i, j, k) -> m.count(i), what, 0, 0);
        }
        for (int i = 0; i < 3; i++) {
            ask("get(2)" + behind, (x, h, j, k) -> x.get(h, 2), (m, h, j, k) -> m.get(h, 2), i, 0, 0);
            ask("get(29)" + behind, (x, h, j, k) -> x.get(h, 29), (m, h, j, k) -> m.get(h, 29), i, 0, 0);
        }
        for (int i = 0; i < 4; i++) {
            ask("laid" + behind, (x, h, j, k) -> x.laid(h, 0), (m, h, j, k) -> m.laid(h, 0), i, 0, 0);
            ask("of" + behind, (x, h, j, k) -> x.of(h, 1), (m, h, j, k) -> m.of(h, 1), i, 0, 0);
        }
        ask("fewest" + behind, (x, h, j, k) -> x.fewest(2), (m, h, j, k) -> m.fewest(2), 0, 0, 0);
        ask("spell" + behind, (x, h, j, k) -> x.spell(), (m, h, j, k) -> m.spell(), 0, 0, 0);
    }

    private void changes() {
        for (int v : WIDE) {
            change("2: grave", (x, a, b, c) -> x.grave(a), (m, a, b, c) -> m.grave(a), v, 0, 0);
            change("6: drop", (x, a, b, c) -> x.drop(a), (m, a, b, c) -> m.drop(a), v, 0, 0);
            change("27: feed", (x, a, b, c) -> x.feed(a), (m, a, b, c) -> m.feed(a), v, 0, 0);
            for (int w : NARROW) {
                change("31: tray", (x, a, b, c) -> x.tray(a, b), (m, a, b, c) -> m.tray(a, b), w, v, 0);
                change("32: lay", (x, a, b, c) -> x.lay(a, b), (m, a, b, c) -> m.lay(a, b), w, v, 0);
                change("34: list", (x, a, b, c) -> x.list(a, b), (m, a, b, c) -> m.list(a, b), w, v, 0);
                change("35: put", (x, a, b, c) -> x.put(a, b, 5), (m, a, b, c) -> m.put(a, b, 5), w, v, 0);
                change("37: fill", (x, a, b, c) -> x.fill(a, b), (m, a, b, c) -> m.fill(a, b), w, v, 0);
            }
        }
        for (int v : NARROW) {
            for (int w : NARROW) {
                for (int is = -1; is <= 2; is++) {
                    change("3: has", (x, a, b, c) -> x.has(a, b, c), (m, a, b, c) -> m.has(a, b, c), v, w, is);
                }
            }
        }
        change("28: read", (x, a, b, c) -> x.read(), (m, a, b, c) -> m.read(), 0, 0, 0);
        change("39: image", (x, a, b, c) -> x.image(), (m, a, b, c) -> m.image(), 0, 0, 0);
        change("40: undo", (x, a, b, c) -> x.undo(), (m, a, b, c) -> m.undo(), 0, 0, 0);
    }
}
