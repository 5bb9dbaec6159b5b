import java.util.Random;

/** Long runs of calls on the class and on the model: each answer is the same. */
final class ModelTest {
    private static final Check CHECK = new Check("ModelTest");
    private static final int RUNS = 300;
    private static final int CALLS = 512;
    private static final String[] NAMES = {"a", "b", "c", "ab", "abc", "zzzzzz", "pot", "pin", "bead", "ring", "b",
        "a"};
    private static final String BYTES = "0129:,;+-abz";

    private final Random random;
    private final FindOrder real = new FindOrder();
    private final Model model = new Model();
    private final int mostGraves;
    private int calls;
    private int run;

    private ModelTest(int run) {
        this.run = run;
        random = new Random(run);
        mostGraves = run % 20 == 0 ? 7 : run % 5 == 0 ? 6 : 3 + run % 3;
    }

    public static void main(String[] args) {
        for (int run = 0; run < RUNS; run++) {
            new ModelTest(run).go();
        }
        CHECK.end();
    }

    private void go() {
        while (calls < CALLS) {
            int kind = random.nextInt(100);
            if (kind < 12) {
                tellText();
            } else if (kind < 34) {
                change();
            } else {
                call(random.nextInt(40));
            }
        }
    }

    private int pick(int low, int high) {
        int spread = random.nextInt(30);
        return spread == 0 ? low - 1 : spread == 1 ? high + 1
            : spread == 2 && random.nextInt(4) == 0 ? random.nextInt() : low + random.nextInt(high - low + 1);
    }

    private int someGrave() {
        return pick(0, Math.max(0, model.count(0) - 1));
    }

    private int someType() {
        return pick(0, Math.max(0, model.count(1) - 1));
    }

    private int someOrder() {
        int kind = random.nextInt(8);
        if (kind == 0) {
            return random.nextInt(8) == 0 ? random.nextInt() : random.nextInt(7654321);
        }
        if (kind < 3) {
            return model.gapless(random.nextInt(20));
        }
        int order = 0;
        int used = 0;
        int many = model.count(0);
        for (int i = 0; i < many; i++) {
            int g = random.nextInt(many);
            while ((used >> g & 1) != 0 && random.nextInt(60) != 0) {
                g = (g + 1) % many;
            }
            used |= 1 << g;
            order = order * 10 + g + 1;
        }
        return order;
    }

    private void due(String call, long got, long want) {
        calls++;
        CHECK.due("run " + run + ", call " + calls + ": " + call, got, want);
    }

    private String someName() {
        return NAMES[random.nextInt(NAMES.length)];
    }

    private String someStatement() {
        StringBuilder text = new StringBuilder();
        if (random.nextInt(2) == 0) {
            return text.append(random.nextBoolean() ? '+' : '-').append(Math.abs(someGrave() % 10)).append(someName())
                .toString();
        }
        text.append(random.nextInt(3) == 0 ? random.nextInt(1000) : random.nextInt(3) * 100).append(':');
        int many = random.nextInt(4);
        for (int i = 0; i < many; i++) {
            text.append(i == 0 ? "" : ",").append(someName());
        }
        return text.toString();
    }

    private void tellText() {
        StringBuilder text = new StringBuilder(someStatement());
        int more = random.nextInt(3);
        for (int i = 0; i < more; i++) {
            text.append(';').append(someStatement());
        }
        if (random.nextInt(4) == 0) {
            int at = random.nextInt(text.length());
            char other = BYTES.charAt(random.nextInt(BYTES.length()));
            switch (random.nextInt(4)) {
                case 0: text.setCharAt(at, other); break;
                case 1: text.insert(at, other); break;
                case 2: text.deleteCharAt(at); break;
                default: text.setLength(at);
            }
        }
        for (int i = 0; i < text.length() && calls < CALLS; i++) {
            due("feed(" + (int) text.charAt(i) + ")", real.feed(text.charAt(i)), model.feed(text.charAt(i)));
        }
        if (calls < CALLS && random.nextInt(12) != 0) {
            due("read()", real.read(), model.read());
        }
        while (calls < CALLS && model.count(0) > mostGraves) {
            call(5);
        }
    }

    private void change() {
        if (random.nextInt(4) == 0) {
            if (model.count(0) < mostGraves || random.nextInt(40) == 0) {
                call(1);
            }
        } else {
            call(2);
        }
    }

    private void call(int number) {
        if (number < 13) {
            callSite(number);
        } else if (number < 26) {
            callOrder(number);
        } else {
            callRest(number);
        }
    }

    private void callSite(int number) {
        int a = someGrave();
        int b = someType();
        int what = pick(0, 5);
        switch (number) {
            case 0: case 1: a = pick(0, 999); due("grave(" + a + ")", real.grave(a), model.grave(a)); break;
            case 2: what = pick(0, 1);
                due("has(" + a + ", " + b + ", " + what + ")", real.has(a, b, what), model.has(a, b, what)); break;
            case 3: due("of(" + a + ", " + what + ")", real.of(a, what), model.of(a, what)); break;
            case 4: what = pick(0, 7);
                due("type(" + b + ", " + what + ")", real.type(b, what), model.type(b, what)); break;
            case 5: due("drop(" + a + ")", real.drop(a), model.drop(a)); break;
            case 6: due("count(" + what + ")", real.count(what), model.count(what)); break;
            case 7: a = random.nextInt(3) == 0 ? pick(0, 60) : random.nextInt(8);
                due("orders(" + a + ")", real.orders(a), model.orders(a)); break;
            case 8: a = pick(0, 9); due("gapless(" + a + ")", real.gapless(a), model.gapless(a)); break;
            case 9: what = pick(0, 2); due("fewest(" + what + ")", real.fewest(what), model.fewest(what)); break;
            case 10: b = someGrave(); what = pick(0, 2);
                due("ends(" + a + ", " + b + ", " + what + ")", real.ends(a, b, what), model.ends(a, b, what)); break;
            case 11: due("clusters()", real.clusters(), model.clusters()); break;
            default: what = pick(0, 2); due("knots(" + what + ")", real.knots(what), model.knots(what));
        }
    }

    private void callOrder(int number) {
        int a = someGrave();
        int b = someGrave();
        int what = pick(0, 3);
        int order = someOrder();
        switch (number) {
            case 13: a = pick(0, 12); what = pick(0, 4);
                due("knot(" + a + ", " + what + ")", real.knot(a, what), model.knot(a, what)); break;
            case 14: due("told()", real.told(), model.told()); break;
            case 15: what = pick(0, 2); due("spoils(" + what + ")", real.spoils(what), model.spoils(what)); break;
            case 16: due("gaps(" + order + ")", real.gaps(order), model.gaps(order)); break;
            case 17: due("runs(" + order + ")", real.runs(order), model.runs(order)); break;
            case 18: due("kinship(" + order + ")", real.kinship(order), model.kinship(order)); break;
            case 19: what = pick(0, 1); due("kin(" + what + ")", real.kin(what), model.kin(what)); break;
            case 20: due("shared(" + a + ", " + b + ")", real.shared(a, b), model.shared(a, b)); break;
            case 21: due("chain(" + a + ")", real.chain(a), model.chain(a)); break;
            case 22: due("walk(" + what + ")", real.walk(what), model.walk(what)); break;
            case 23: due("turned(" + order + ")", real.turned(order), model.turned(order)); break;
            case 24: due("rank(" + order + ")", real.rank(order), model.rank(order)); break;
            default: due("swap(" + order + ", " + a + ", " + b + ")", real.swap(order, a, b), model.swap(order, a, b));
        }
    }

    private void callRest(int number) {
        int a = pick(0, 3);
        int b = pick(0, 8);
        int v = someOrder();
        int size = model.spell();
        switch (number) {
            case 26: a = pick(0, 127); due("feed(" + a + ")", real.feed(a), model.feed(a)); break;
            case 27: due("read()", real.read(), model.read());
                while (calls < CALLS && model.count(0) > mostGraves) {
                    call(5);
                }
                break;
            case 28: due("spell()", real.spell(), size); break;
            case 29: a = pick(0, Math.max(0, size - 1)); due("paper(" + a + ")", real.paper(a), model.paper(a)); break;
            case 30: b = pick(0, 4) == 0 ? 0 : pick(1, 1);
                due("tray(" + a + ", " + b + ")", real.tray(a, b), model.tray(a, b)); break;
            case 31: b = someGrave(); due("lay(" + a + ", " + b + ")", real.lay(a, b), model.lay(a, b)); break;
            case 32: b = someType(); due("laid(" + a + ", " + b + ")", real.laid(a, b), model.laid(a, b)); break;
            case 33: b = random.nextInt(4) == 0 ? pick(-1, 30) : random.nextInt(5);
                due("list(" + a + ", " + b + ")", real.list(a, b), model.list(a, b)); break;
            case 34: due("put(" + a + ", " + b + ", " + v + ")", real.put(a, b, v), model.put(a, b, v)); break;
            case 35: due("get(" + a + ", " + b + ")", real.get(a, b), model.get(a, b)); break;
            case 36: b = random.nextInt(3) == 0 ? pick(0, 9) : 0;
                due("fill(" + a + ", " + b + ")", real.fill(a, b), model.fill(a, b)); break;
            case 37: b = pick(0, 2); due("judge(" + a + ", " + b + ")", real.judge(a, b), model.judge(a, b)); break;
            case 38: due("image()", real.image(), model.image()); break;
            default: due("undo()", real.undo(), model.undo());
        }
    }
}
