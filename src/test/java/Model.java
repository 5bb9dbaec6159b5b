import java.util.ArrayList;
import java.util.Arrays;
import java.util.HashMap;
import java.util.HashSet;
import java.util.List;
import java.util.Map;
import java.util.Set;
import java.util.TreeSet;
import java.util.regex.Pattern;

/** Answers each call by the words of the document: all orders one by one, texts by a pattern, names as texts. */
final class Model {
    private static final int NONE = -1, BAD = -2, STATE = -3, FULL = -4, NOT = -5, NO_ITEM = -2000000000;
    private static final int MISSING = -11, OUTSIDE = -12, SIZE = -14;
    private static final String STATEMENT = "([0-9]{1,3}:([a-z]{1,6}(,[a-z]{1,6})*)?|[+-][0-9][a-z]{1,6})";
    private static final Pattern TEXT = Pattern.compile(STATEMENT + "(;" + STATEMENT + ")*");
    /** What begins like a text becomes one by one of these. */
    private static final String[] REST = {"", ":", "0:", "a", "0a"};

    private static final class Grave {
        final int age;
        final Set<String> finds;

        Grave(int age, Set<String> finds) {
            this.age = age;
            this.finds = new TreeSet<>(finds);
        }
    }

    private List<Grave> graves = new ArrayList<>();
    private List<String> names = new ArrayList<>();
    private List<Grave> oldGraves;
    private List<String> oldNames;
    private String tape = "";
    private int texts;
    private final List<Map<String, Integer>> trays = new ArrayList<>(Arrays.asList(null, null, null, null));
    private final List<int[]> lists = new ArrayList<>(Arrays.asList(null, null, null));
    private List<List<Integer>> allOrders;
    private List<List<Integer>> smooth;

    private static List<Grave> copy(List<Grave> from) {
        List<Grave> to = new ArrayList<>();
        for (Grave g : from) {
            to.add(new Grave(g.age, g.finds));
        }
        return to;
    }

    private boolean isGrave(int g) {
        return g >= 0 && g < graves.size();
    }

    private boolean isType(int t) {
        return t >= 0 && t < names.size();
    }

    private boolean owns(int g, int t) {
        return graves.get(g).finds.contains(names.get(t));
    }

    private void changed() {
        allOrders = null;
        smooth = null;
    }

    // ---- orders ----

    private static void extend(List<Integer> begun, List<Integer> of, List<List<Integer>> into) {
        if (begun.size() == of.size()) {
            into.add(new ArrayList<>(begun));
            return;
        }
        for (int g : of) {
            if (!begun.contains(g)) {
                begun.add(g);
                extend(begun, of, into);
                begun.remove(begun.size() - 1);
            }
        }
    }

    private static List<List<Integer>> ordersOf(List<Integer> of) {
        List<List<Integer>> into = new ArrayList<>();
        extend(new ArrayList<>(), of, into);
        return into;
    }

    private List<Integer> everybody() {
        List<Integer> all = new ArrayList<>();
        for (int g = 0; g < graves.size(); g++) {
            all.add(g);
        }
        return all;
    }

    private List<List<Integer>> all() {
        if (allOrders == null) {
            allOrders = ordersOf(everybody());
        }
        return allOrders;
    }

    private int gapsOfType(List<Integer> order, int t) {
        int gaps = 0;
        for (int i = 0; i < order.size(); i++) {
            boolean before = false;
            boolean after = false;
            for (int j = 0; j < order.size(); j++) {
                before |= j < i && owns(order.get(j), t);
                after |= j > i && owns(order.get(j), t);
            }
            if (before && after && !owns(order.get(i), t)) {
                gaps++;
            }
        }
        return gaps;
    }

    private int gapsWithout(List<Integer> order, int without) {
        int gaps = 0;
        for (int t = 0; t < names.size(); t++) {
            gaps += t == without ? 0 : gapsOfType(order, t);
        }
        return gaps;
    }

    private int gapsOf(List<Integer> order) {
        return gapsWithout(order, -1);
    }

    private List<List<Integer>> smoothOrders() {
        if (smooth == null) {
            smooth = new ArrayList<>();
            for (List<Integer> order : all()) {
                if (gapsOf(order) == 0) {
                    smooth.add(order);
                }
            }
        }
        return smooth;
    }

    private static int digits(List<Integer> order) {
        int digits = 0;
        for (int g : order) {
            digits = digits * 10 + g + 1;
        }
        return digits;
    }

    private List<Integer> orderOf(int digits) {
        for (List<Integer> order : all()) {
            if (digits(order) == digits) {
                return order;
            }
        }
        return null;
    }

    private int kinshipOf(List<Integer> order) {
        int sum = 0;
        for (int i = 1; i < order.size(); i++) {
            sum += shared(order.get(i - 1), order.get(i));
        }
        return sum;
    }

    // ---- clusters ----

    private List<Integer> clusterSets() {
        List<Integer> sets = new ArrayList<>();
        for (int set = 1; set < 1 << graves.size(); set++) {
            boolean always = true;
            for (List<Integer> order : smoothOrders()) {
                always &= together(order, set);
            }
            if (always) {
                sets.add(set);
            }
        }
        return sets;
    }

    private static boolean together(List<Integer> order, int set) {
        int begins = 0;
        boolean in = false;
        for (int g : order) {
            boolean now = (set & 1 << g) != 0;
            if (now && !in) {
                begins++;
            }
            in = now;
        }
        return begins == 1;
    }

    private List<Integer> knotSets() {
        List<Integer> clusters = clusterSets();
        List<Integer> knots = new ArrayList<>();
        for (int a : clusters) {
            boolean is = true;
            for (int b : clusters) {
                is &= (a & b) == 0 || (a & ~b) == 0 || (b & ~a) == 0;
            }
            if (is) {
                knots.add(a);
            }
        }
        knots.sort((a, b) -> Integer.bitCount(a) != Integer.bitCount(b)
            ? Integer.bitCount(a) - Integer.bitCount(b) : a - b);
        return knots;
    }

    private static boolean within(int a, int b) {
        return a != b && (a & ~b) == 0;
    }

    private static List<Integer> childrenOf(int knot, List<Integer> knots) {
        List<Integer> children = new ArrayList<>();
        for (int a : knots) {
            boolean is = within(a, knot);
            for (int b : knots) {
                is &= !(within(b, knot) && within(a, b));
            }
            if (is) {
                children.add(a);
            }
        }
        return children;
    }

    private int sortOf(int knot, List<Integer> knots, List<Integer> clusters) {
        List<Integer> children = childrenOf(knot, knots);
        if (children.size() < 2) {
            return 0;
        }
        boolean pair = false;
        for (int a : children) {
            for (int b : children) {
                pair |= a != b && clusters.contains(a | b);
            }
        }
        return children.size() == 2 || !pair ? 1 : 2;
    }

    // ---- the face ----

    int grave(int age) {
        if (age < 0 || age > 999) {
            return BAD;
        }
        if (graves.size() == 7) {
            return FULL;
        }
        graves.add(new Grave(age, Set.of()));
        changed();
        return graves.size() - 1;
    }

    int has(int grave, int type, int is) {
        if (!isGrave(grave) || !isType(type)) {
            return NONE;
        }
        if (is != 0 && is != 1) {
            return BAD;
        }
        int was = owns(grave, type) ? 1 : 0;
        if (is == 1) {
            graves.get(grave).finds.add(names.get(type));
        } else {
            graves.get(grave).finds.remove(names.get(type));
        }
        changed();
        return was;
    }

    private int bits(int grave) {
        int bits = 0;
        for (int t = 0; t < names.size(); t++) {
            bits |= owns(grave, t) ? 1 << t : 0;
        }
        return bits;
    }

    int of(int grave, int what) {
        if (!isGrave(grave) || what < 0 || what > 3) {
            return NONE;
        }
        Grave me = graves.get(grave);
        int peers = 0;
        int others = 0;
        for (int g = 0; g < graves.size(); g++) {
            Grave it = graves.get(g);
            peers += it.finds.equals(me.finds) && it.age % 100 == me.age % 100 ? 1 : 0;
            others += g != grave && shared(g, grave) > 0 ? 1 : 0;
        }
        return new int[] {me.age, bits(grave), peers, others}[what];
    }

    int type(int type, int what) {
        if (!isType(type) || what < 0 || what > 7) {
            return NONE;
        }
        String name = names.get(type);
        if (what == 0) {
            int bits = 0;
            for (int g = 0; g < graves.size(); g++) {
                bits |= owns(g, type) ? 1 << g : 0;
            }
            return bits;
        }
        return what == 1 ? name.length() : what - 2 < name.length() ? name.charAt(what - 2) : NONE;
    }

    int drop(int grave) {
        if (!isGrave(grave)) {
            return NONE;
        }
        graves.remove(grave);
        changed();
        return graves.size();
    }

    int count(int what) {
        if (what < 0 || what > 5) {
            return BAD;
        }
        int bare = 0;
        for (Grave g : graves) {
            bare += g.finds.isEmpty() ? 1 : 0;
        }
        return new int[] {graves.size(), names.size(), parts(), tape.length(), texts, bare}[what];
    }

    private int parts() {
        List<Set<Integer>> parts = new ArrayList<>();
        for (int g = 0; g < graves.size(); g++) {
            Set<Integer> mine = new HashSet<>(Set.of(g));
            List<Set<Integer>> apart = new ArrayList<>();
            for (Set<Integer> part : parts) {
                boolean meets = false;
                for (int other : part) {
                    meets |= shared(g, other) > 0;
                }
                if (meets) {
                    mine.addAll(part);
                } else {
                    apart.add(part);
                }
            }
            apart.add(mine);
            parts = apart;
        }
        return parts.size();
    }

    int orders(int most) {
        if (most < 0 || most > 60) {
            return BAD;
        }
        int many = 0;
        for (List<Integer> order : all()) {
            many += gapsOf(order) <= most ? 1 : 0;
        }
        return many;
    }

    int gapless(int i) {
        return i < 0 || i >= smoothOrders().size() ? NONE : digits(smoothOrders().get(i));
    }

    private int[] best(List<List<Integer>> orders) {
        int[] best = {1000, 0, 0};
        for (List<Integer> order : orders) {
            int gaps = gapsOf(order);
            if (gaps < best[0]) {
                best = new int[] {gaps, 0, digits(order)};
            }
            best[1] += gaps == best[0] ? 1 : 0;
        }
        return best;
    }

    int fewest(int what) {
        return what < 0 || what > 2 ? BAD : best(all())[what];
    }

    int ends(int first, int last, int what) {
        if (!isGrave(first) || !isGrave(last)) {
            return NONE;
        }
        if (first == last && graves.size() > 1) {
            return NOT;
        }
        if (what < 0 || what > 2) {
            return BAD;
        }
        List<List<Integer>> fit = new ArrayList<>();
        for (List<Integer> order : all()) {
            if (order.get(0) == first && order.get(order.size() - 1) == last) {
                fit.add(order);
            }
        }
        int[] best = best(fit);
        return what == 0 ? best[0] == 0 ? best[1] : 0 : what == 1 ? best[0] : best[2];
    }

    int clusters() {
        return smoothOrders().isEmpty() ? STATE : clusterSets().size();
    }

    int knots(int what) {
        if (what < 0 || what > 2) {
            return BAD;
        }
        if (smoothOrders().isEmpty()) {
            return STATE;
        }
        List<Integer> knots = knotSets();
        if (what == 0) {
            return knots.size();
        }
        List<Integer> clusters = clusterSets();
        int many = 0;
        for (int knot : knots) {
            many += sortOf(knot, knots, clusters) == what ? 1 : 0;
        }
        return many;
    }

    int knot(int i, int what) {
        if (smoothOrders().isEmpty()) {
            return STATE;
        }
        List<Integer> knots = knotSets();
        if (i < 0 || i >= knots.size() || what < 0 || what > 4 || what == 2) {
            return NONE;
        }
        int parent = NOT;
        for (int k = 0; k < knots.size(); k++) {
            if (childrenOf(knots.get(k), knots).contains(knots.get(i))) {
                parent = k;
            }
        }
        int sort = sortOf(knots.get(i), knots, clusterSets());
        return new int[] {knots.get(i), sort, 0, childrenOf(knots.get(i), knots).size(), parent}[what];
    }

    long told() {
        if (smoothOrders().isEmpty()) {
            return Long.MIN_VALUE;
        }
        List<Integer> knots = knotSets();
        List<Integer> clusters = clusterSets();
        long product = 1;
        for (int knot : knots) {
            int sort = sortOf(knot, knots, clusters);
            int children = childrenOf(knot, knots).size();
            product *= sort == 1 ? waysInARow(children) : sort == 2 ? 2 : 1;
        }
        return product;
    }

    private static long waysInARow(int many) {
        return many <= 1 ? 1 : many * waysInARow(many - 1);
    }

    int spoils(int what) {
        if (what < 0 || what > 2) {
            return BAD;
        }
        int[] answer = {0, 0, NOT};
        if (smoothOrders().isEmpty()) {
            for (int g = graves.size() - 1; g >= 0; g--) {
                List<Integer> others = everybody();
                others.remove(Integer.valueOf(g));
                if (ordersOf(others).stream().anyMatch(order -> gapsOf(order) == 0)) {
                    answer[0] |= 1 << g;
                    answer[2] = g;
                }
            }
            for (int t = 0; t < names.size(); t++) {
                int without = t;
                answer[1] |= all().stream().anyMatch(order -> gapsWithout(order, without) == 0) ? 1 << t : 0;
            }
        }
        return answer[what];
    }

    int gaps(int order) {
        return orderOf(order) == null ? BAD : gapsOf(orderOf(order));
    }

    int runs(int order) {
        if (orderOf(order) == null) {
            return BAD;
        }
        int bits = 0;
        for (int t = 0; t < names.size(); t++) {
            bits |= gapsOfType(orderOf(order), t) == 0 ? 1 << t : 0;
        }
        return bits;
    }

    int kinship(int order) {
        return orderOf(order) == null ? BAD : kinshipOf(orderOf(order));
    }

    int kin(int what) {
        if (what != 0 && what != 1) {
            return BAD;
        }
        int most = -1;
        int first = 0;
        for (List<Integer> order : all()) {
            if (kinshipOf(order) > most) {
                most = kinshipOf(order);
                first = digits(order);
            }
        }
        return what == 0 ? most : first;
    }

    int shared(int a, int b) {
        if (!isGrave(a) || !isGrave(b)) {
            return NONE;
        }
        Set<String> both = new HashSet<>(graves.get(a).finds);
        both.retainAll(graves.get(b).finds);
        return both.size();
    }

    int chain(int grave) {
        if (!isGrave(grave)) {
            return NONE;
        }
        List<Integer> left = everybody();
        List<Integer> order = new ArrayList<>();
        int last = grave;
        while (true) {
            order.add(last);
            left.remove(Integer.valueOf(last));
            if (left.isEmpty()) {
                return digits(order);
            }
            int from = last;
            left.sort((a, b) -> shared(b, from) != shared(a, from) ? shared(b, from) - shared(a, from)
                : graves.get(a).age != graves.get(b).age ? graves.get(a).age - graves.get(b).age : a - b);
            last = left.get(0);
        }
    }

    int walk(int rule) {
        if (rule < 0 || rule > 3) {
            return BAD;
        }
        List<Integer> order = everybody();
        order.sort((a, b) -> {
            switch (rule) {
                case 0: return graves.get(a).age - graves.get(b).age;
                case 1: return graves.get(b).finds.size() - graves.get(a).finds.size();
                case 2: return of(b, 3) - of(a, 3);
                default: return bits(a) - bits(b);
            }
        });
        return digits(order);
    }

    int turned(int order) {
        if (orderOf(order) == null) {
            return BAD;
        }
        String back = new StringBuilder(String.valueOf(order)).reverse().toString();
        return Integer.parseInt(back);
    }

    int rank(int order) {
        if (orderOf(order) == null) {
            return BAD;
        }
        return (int) smoothOrders().stream().filter(other -> digits(other) < order).count();
    }

    int swap(int order, int a, int b) {
        if (orderOf(order) == null) {
            return BAD;
        }
        if (!isGrave(a) || !isGrave(b)) {
            return NONE;
        }
        return Integer.parseInt(String.valueOf(order).replace((char) ('1' + a), 'x')
            .replace((char) ('1' + b), (char) ('1' + a)).replace('x', (char) ('1' + b)));
    }

    int feed(int letter) {
        if (letter < 0 || letter > 127) {
            return BAD;
        }
        if (tape.length() == 100) {
            return FULL;
        }
        tape += (char) letter;
        return tape.length();
    }

    private static boolean begins(String text) {
        for (String rest : REST) {
            if (TEXT.matcher(text + rest).matches()) {
                return true;
            }
        }
        return false;
    }

    int read() {
        String text = tape;
        tape = "";
        for (int i = 0; i < text.length(); i++) {
            if (!begins(text.substring(0, i + 1))) {
                return -100 - i;
            }
        }
        if (!TEXT.matcher(text).matches()) {
            return -100 - text.length();
        }
        List<Grave> graveCopy = copy(graves);
        List<String> nameCopy = new ArrayList<>(names);
        int place = 0;
        int done = 0;
        for (String statement : text.split(";", -1)) {
            if (!done(statement)) {
                graves = graveCopy;
                names = nameCopy;
                changed();
                return -300 - place;
            }
            place += statement.length() + 1;
            done++;
        }
        texts++;
        changed();
        return done;
    }

    private boolean comes(String name) {
        if (names.contains(name)) {
            return true;
        }
        if (names.size() == 8) {
            return false;
        }
        names.add(name);
        return true;
    }

    private boolean done(String statement) {
        char sign = statement.charAt(0);
        if (sign == '+' || sign == '-') {
            int grave = statement.charAt(1) - '0';
            String name = statement.substring(2);
            if (!isGrave(grave) || !comes(name)) {
                return false;
            }
            graves.get(grave).finds.remove(name);
            if (sign == '+') {
                graves.get(grave).finds.add(name);
            }
            return true;
        }
        String[] halves = statement.split(":", -1);
        Set<String> finds = new TreeSet<>();
        for (String name : halves[1].isEmpty() ? new String[0] : halves[1].split(",")) {
            if (!finds.add(name) || !comes(name)) {
                return false;
            }
        }
        if (graves.size() == 7) {
            return false;
        }
        graves.add(new Grave(Integer.parseInt(halves[0]), finds));
        return true;
    }

    private String paper() {
        List<String> statements = new ArrayList<>();
        for (Grave g : graves) {
            statements.add(g.age + ":" + String.join(",", g.finds));
        }
        return String.join(";", statements);
    }

    int spell() {
        return paper().length();
    }

    int paper(int i) {
        return i < 0 || i >= paper().length() ? NONE : paper().charAt(i);
    }

    int tray(int tray, int is) {
        if (tray < 0 || tray > 3) {
            return NONE;
        }
        if (is != 0 && is != 1) {
            return BAD;
        }
        trays.set(tray, is == 1 ? new HashMap<>() : null);
        return 1;
    }

    int lay(int tray, int grave) {
        if (tray < 0 || tray > 3 || !isGrave(grave)) {
            return NONE;
        }
        if (trays.get(tray) == null) {
            return MISSING;
        }
        for (String name : graves.get(grave).finds) {
            trays.get(tray).merge(name, 1, Integer::sum);
        }
        return trays.get(tray).size();
    }

    int laid(int tray, int type) {
        if (tray < 0 || tray > 3 || !isType(type)) {
            return NONE;
        }
        return trays.get(tray) == null ? MISSING : trays.get(tray).getOrDefault(names.get(type), NOT);
    }

    int list(int list, int n) {
        if (list < 0 || list > 2) {
            return NONE;
        }
        if (n > 30) {
            return BAD;
        }
        if (n < -1) {
            return SIZE;
        }
        lists.set(list, n < 0 ? null : new int[n]);
        return 1;
    }

    int put(int list, int i, int v) {
        if (list < 0 || list > 2) {
            return NONE;
        }
        int[] items = lists.get(list);
        if (items == null) {
            return MISSING;
        }
        if (i < 0 || i >= items.length) {
            return OUTSIDE;
        }
        items[i] = v;
        return 1;
    }

    int get(int list, int i) {
        if (list < 0 || list > 2 || lists.get(list) == null || i < 0 || i >= lists.get(list).length) {
            return NO_ITEM;
        }
        return lists.get(list)[i];
    }

    int fill(int list, int from) {
        if (list < 0 || list > 2) {
            return NONE;
        }
        if (from < 0) {
            return BAD;
        }
        int[] items = lists.get(list);
        if (items == null) {
            return MISSING;
        }
        int many = 0;
        while (many < items.length && gapless(from + many) != NONE) {
            items[many] = gapless(from + many);
            many++;
        }
        return many;
    }

    int judge(int list, int what) {
        if (list < 0 || list > 2) {
            return NONE;
        }
        if (what < 0 || what > 2) {
            return BAD;
        }
        int[] items = lists.get(list);
        if (items == null) {
            return MISSING;
        }
        for (int i = 0; i < items.length; i++) {
            boolean right = what == 0 ? orderOf(items[i]) != null
                : what == 1 ? gaps(items[i]) == 0 : i < smoothOrders().size() && gapless(i) == items[i];
            if (!right) {
                return i;
            }
        }
        return NOT;
    }

    int image() {
        oldGraves = copy(graves);
        oldNames = new ArrayList<>(names);
        return graves.size();
    }

    int undo() {
        if (oldGraves == null) {
            return STATE;
        }
        graves = copy(oldGraves);
        names = new ArrayList<>(oldNames);
        changed();
        return graves.size();
    }
}
