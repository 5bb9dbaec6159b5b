import java.util.ArrayList;
import java.util.LinkedHashMap;
import java.util.List;
import java.util.Map;

/** What is refused changes nothing, what is asked changes nothing, and what was asked ahead changes no later answer. */
final class ChangeTest {
    private static final Check CHECK = new Check("ChangeTest");

    private interface Call {
        long on(FindOrder x);
    }

    /** A call, by the promise that tells it. */
    private record Told(String name, Call call) { }

    private interface State {
        FindOrder make();
    }

    public static void main(String[] args) {
        Map<String, State> states = new LinkedHashMap<>();
        states.put("nobody", FindOrder::new);
        states.put("three", ChangeTest::three);
        states.put("a ring", ChangeTest::ring);
        states.put("full", ChangeTest::full);
        for (Map.Entry<String, State> state : states.entrySet()) {
            for (Told told : refused()) {
                changesNothing(state.getKey(), state.getValue(), told, true);
            }
            for (Told told : asked(7)) {
                changesNothing(state.getKey(), state.getValue(), told, false);
            }
            for (Told told : changing()) {
                askedAhead(state.getKey(), state.getValue(), told);
            }
        }
        refusedByState();
        String[] texts = {"0:", "5:a,b;5:b;105:", "1:a,b;2:b,c;3:c,a", "9:a;8:a;7:b;7:b,c;6:c", GraveEdgesTest.FULL,
            "1:a;2:b;3:c;4:d;5:e;6:f;7:f,e,d,c,b,a", "3:c;3:;2:a;1:a,b;9:b;9:c;9:a"};
        for (String text : texts) {
            madeAnotherWay(text);
        }
        CHECK.end();
    }

    // ---- states ----

    private static FindOrder three() {
        FindOrder x = Check.told("5:ab;9:c");
        x.image();
        Check.tell(x, "105:ab,c;-1zz");
        x.tray(0, 1);
        x.lay(0, 0);
        x.tray(3, 1);
        x.list(0, 3);
        x.put(0, 1, 321);
        x.list(2, 0);
        feed(x, "+0zz;4:");
        return x;
    }

    private static FindOrder ring() {
        FindOrder x = Check.told("1:a,b;2:b,c;3:c,a");
        x.image();
        x.grave(4);
        x.list(1, 4);
        x.put(1, 3, 4123);
        x.tray(1, 1);
        x.lay(1, 2);
        feed(x, "+0");
        return x;
    }

    private static FindOrder full() {
        FindOrder x = Check.told(GraveEdgesTest.FULL);
        x.image();
        x.has(3, 3, 1);
        feed(x, "1:!" + "x".repeat(97));
        return x;
    }

    private static void feed(FindOrder x, String text) {
        for (int i = 0; i < text.length(); i++) {
            x.feed(text.charAt(i));
        }
    }

    // ---- calls ----

    /** Calls that are refused in each of the states. */
    private static List<Told> refused() {
        List<Told> calls = new ArrayList<>();
        int[] wrong = {Integer.MIN_VALUE, -3, 9, Integer.MAX_VALUE};
        for (int w : wrong) {
            calls.add(new Told("2: grave", x -> x.grave(w == 9 ? 1000 : w)));
            calls.add(new Told("3: has, grave", x -> x.has(w, 0, 1)));
            calls.add(new Told("3: has, type", x -> x.has(0, w, 1)));
            calls.add(new Told("3: has, is", x -> x.has(0, 0, w)));
            calls.add(new Told("4: of", x -> x.of(0, w)));
            calls.add(new Told("5: type", x -> x.type(0, w)));
            calls.add(new Told("6: drop", x -> x.drop(w)));
            calls.add(new Told("7: count", x -> x.count(w)));
            calls.add(new Told("8: orders", x -> x.orders(w == 9 ? 61 : w)));
            calls.add(new Told("10: fewest", x -> x.fewest(w)));
            calls.add(new Told("11: ends", x -> x.ends(0, 0, w)));
            calls.add(new Told("13: knots", x -> x.knots(w)));
            calls.add(new Told("14: knot", x -> x.knot(0, w)));
            calls.add(new Told("16: spoils", x -> x.spoils(w)));
            calls.add(new Told("17: gaps", x -> x.gaps(w)));
            calls.add(new Told("18: runs", x -> x.runs(w)));
            calls.add(new Told("19: kinship", x -> x.kinship(w)));
            calls.add(new Told("20: kin", x -> x.kin(w)));
            calls.add(new Told("21: shared", x -> x.shared(w, 0)));
            calls.add(new Told("22: chain", x -> x.chain(w)));
            calls.add(new Told("23: walk", x -> x.walk(w)));
            calls.add(new Told("24: turned", x -> x.turned(w)));
            calls.add(new Told("25: rank", x -> x.rank(w)));
            calls.add(new Told("26: swap", x -> x.swap(w, 0, 0)));
            calls.add(new Told("27: feed", x -> x.feed(w == 9 ? 128 : w)));
            calls.add(new Told("30: paper", x -> x.paper(w == 9 ? 500 : w)));
            calls.add(new Told("31: tray", x -> x.tray(w, 1)));
            calls.add(new Told("31: tray, is", x -> x.tray(0, w)));
            calls.add(new Told("32: lay, tray", x -> x.lay(w, 0)));
            calls.add(new Told("32: lay, grave", x -> x.lay(0, w)));
            calls.add(new Told("32: lay, missing", x -> x.lay(2, 0)));
            calls.add(new Told("33: laid", x -> x.laid(0, w)));
            calls.add(new Told("34: list", x -> x.list(w, 1)));
            calls.add(new Told("34: list, n", x -> x.list(0, w == 9 ? 31 : w)));
            calls.add(new Told("35: put, list", x -> x.put(w, 0, 1)));
            calls.add(new Told("35: put, i", x -> x.put(0, w, 1)));
            calls.add(new Told("36: get", x -> x.get(0, w)));
            calls.add(new Told("37: fill, list", x -> x.fill(w, 0)));
            calls.add(new Told("37: fill, from", x -> x.fill(0, w < 0 ? w : -1)));
            calls.add(new Told("38: judge", x -> x.judge(0, w)));
        }
        return calls;
    }

    private static List<Told> asked(int most) {
        List<Told> calls = new ArrayList<>();
        for (int i = 0; i <= most; i++) {
            int a = i;
            calls.add(new Told("4: of", x -> x.of(a, 2) + x.of(a, 3)));
            calls.add(new Told("5: type", x -> x.type(a, a)));
            calls.add(new Told("7: count", x -> x.count(a)));
            calls.add(new Told("8: orders", x -> x.orders(a)));
            calls.add(new Told("9: gapless", x -> x.gapless(a)));
            calls.add(new Told("10: fewest", x -> x.fewest(a)));
            calls.add(new Told("11: ends", x -> x.ends(a, a + 1, 2)));
            calls.add(new Told("12: clusters", x -> x.clusters()));
            calls.add(new Told("13: knots", x -> x.knots(a)));
            calls.add(new Told("14: knot", x -> x.knot(a, 4)));
            calls.add(new Told("15: told", x -> x.told()));
            calls.add(new Told("16: spoils", x -> x.spoils(a)));
            calls.add(new Told("17: gaps", x -> x.gaps(x.walk(a))));
            calls.add(new Told("18: runs", x -> x.runs(x.walk(a))));
            calls.add(new Told("19: kinship", x -> x.kinship(x.walk(a))));
            calls.add(new Told("20: kin", x -> x.kin(a)));
            calls.add(new Told("21: shared", x -> x.shared(a, 0)));
            calls.add(new Told("22: chain", x -> x.chain(a)));
            calls.add(new Told("23: walk", x -> x.walk(a)));
            calls.add(new Told("24: turned", x -> x.turned(x.walk(a))));
            calls.add(new Told("25: rank", x -> x.rank(x.walk(a))));
            calls.add(new Told("26: swap", x -> x.swap(x.walk(0), a, 0)));
            calls.add(new Told("29: spell", x -> x.spell()));
            calls.add(new Told("30: paper", x -> x.paper(a)));
            calls.add(new Told("33: laid", x -> x.laid(a, 0)));
            calls.add(new Told("36: get", x -> x.get(a, 1)));
            calls.add(new Told("38: judge", x -> x.judge(a, 2)));
        }
        return calls;
    }

    private static List<Told> changing() {
        List<Told> calls = new ArrayList<>();
        calls.add(new Told("2: grave", x -> x.grave(50)));
        calls.add(new Told("3: has", x -> x.has(0, 0, 0)));
        calls.add(new Told("3: has", x -> x.has(1, 0, 1)));
        calls.add(new Told("6: drop", x -> x.drop(0)));
        calls.add(new Told("6: drop", x -> x.drop(1)));
        calls.add(new Told("27: feed", x -> x.feed('a')));
        calls.add(new Told("28: read", x -> x.read()));
        calls.add(new Told("28: read", x -> x.read() + Check.tell(x, "-0a;+1a")));
        calls.add(new Told("28: read", x -> x.read() + Check.tell(x, "33:b;-0ab")));
        calls.add(new Told("31: tray", x -> x.tray(0, 1)));
        calls.add(new Told("32: lay", x -> x.lay(0, 0)));
        calls.add(new Told("34: list", x -> x.list(0, 2)));
        calls.add(new Told("35: put", x -> x.put(0, 0, 132)));
        calls.add(new Told("37: fill", x -> x.fill(0, 0)));
        calls.add(new Told("39: image", x -> x.image() + x.grave(3)));
        calls.add(new Told("40: undo", x -> x.undo()));
        return calls;
    }

    // ---- twins: two objects made the same way, of which one is asked something more ----

    private static void changesNothing(String name, State state, Told told, boolean isRefused) {
        FindOrder one = state.make();
        FindOrder other = state.make();
        long answer = told.call.on(one);
        if (isRefused) {
            CHECK.due(told.name + " is refused of " + name, answer < 0 ? 1 : 0, 1);
        }
        CHECK.due(told.name + " changes nothing of " + name, Picture.of(one).equals(Picture.of(other)) ? 1 : 0, 1);
    }

    private static void askedAhead(String name, State state, Told told) {
        FindOrder one = state.make();
        FindOrder other = state.make();
        // an object answers 512 calls, so each is asked a few of them
        List<Told> few = asked(3);
        for (Told ahead : few) {
            ahead.call.on(one);
        }
        CHECK.due(told.name + " of " + name + ", all asked ahead", told.call.on(one), told.call.on(other));
        for (Told behind : few) {
            CHECK.due(behind.name + " behind " + told.name + " of " + name, behind.call.on(one), behind.call.on(other));
        }
        FindOrder third = state.make();
        told.call.on(third);
        FindOrder fourth = state.make();
        third.clusters();
        fourth.clusters();
        fourth.spell();
        told.call.on(fourth);
        CHECK.due("all behind " + told.name + " of " + name, Picture.of(third).equals(Picture.of(fourth)) ? 1 : 0, 1);
    }

    // ---- an object made by a text, and one made by calls, are asked the same ----

    private static void madeAnotherWay(String text) {
        FindOrder one = Check.told(text);
        FindOrder other = madeByCalls(one);
        for (Told told : asked(6)) {
            CHECK.due(told.name + " of one made by calls, " + text, told.call.on(other), told.call.on(one));
        }
        one.list(0, 30);
        other.list(0, 30);
        CHECK.due("37: fill of one made by calls, " + text, other.fill(0, 0), one.fill(0, 0));
        for (int what = 0; what <= 2; what++) {
            CHECK.due("38: judge of one made by calls, " + text, other.judge(0, what), one.judge(0, what));
        }
        String due = Picture.of(Check.told(text));
        String found = Picture.of(madeByCalls(Check.told(text)));
        CHECK.due("all of one made by calls, " + text, found.equals(due) ? 1 : 0, 1);
    }

    /** All TYPES come by one GRAVE, which is dropped then. */
    private static FindOrder madeByCalls(FindOrder like) {
        StringBuilder names = new StringBuilder("0:");
        for (int t = 0; t < like.count(1); t++) {
            names.append(t == 0 ? "" : ",").append((char) like.type(t, 2));
        }
        FindOrder x = Check.told(names.toString());
        x.drop(0);
        for (int g = 0; g < like.count(0); g++) {
            x.grave(like.of(g, 0));
            for (int t = 0; t < like.count(1); t++) {
                if ((like.of(g, 1) >> t & 1) != 0) {
                    x.has(g, t, 1);
                }
            }
        }
        return x;
    }

    // ---- what a state refuses ----

    private static void refusedByState() {
        List<Told> full = List.of(
            new Told("2: FULL, grave", x -> x.grave(1)),
            new Told("27: FULL, feed", x -> x.feed('a')),
            new Told("14: no such KNOT", x -> x.knot(13, 0)),
            new Told("11: both are the same, ends", x -> x.ends(6, 6, 0)),
            new Told("37: MISSING, fill", x -> x.fill(0, 0)),
            new Told("35: MISSING, put", x -> x.put(0, 0, 1)),
            new Told("38: MISSING, judge", x -> x.judge(0, 0)));
        for (Told told : full) {
            changesNothing("full", ChangeTest::full, told, true);
        }
        List<Told> ring = List.of(
            new Told("12: STATE, clusters", x -> x.clusters()),
            new Told("13: STATE, knots", x -> x.knots(0)),
            new Told("14: STATE, knot", x -> x.knot(0, 0)),
            new Told("15: NO, told", x -> x.told()),
            new Told("9: NONE, gapless", x -> x.gapless(0)),
            new Told("36: NO_ITEM, get", x -> x.get(1, 4)),
            new Told("35: OUTSIDE, put", x -> x.put(1, 4, 1)));
        for (Told told : ring) {
            changesNothing("a ring", ChangeTest::ring, told, true);
        }
        List<Told> nobody = List.of(
            new Told("40: STATE, undo", x -> x.undo()),
            new Told("6: NONE, drop", x -> x.drop(0)),
            new Told("3: NONE, has", x -> x.has(0, 0, 1)),
            new Told("28: a FAULT, read", x -> x.read()));
        for (Told told : nobody) {
            changesNothing("nobody", FindOrder::new, told, true);
        }
    }
}
