/** Graves with types of finds in them, put in a row so that each type runs without a gap. */
public final class FindOrder {
    public static final int NONE = -1, BAD = -2, STATE = -3, FULL = -4, NOT = -5, NO_ITEM = -2000000000;
    public static final long NO = Long.MIN_VALUE;

    private static final int MISSING = -11, OUTSIDE = -12, SIZE = -14;
    private static final int MOST_GRAVES = 7, MOST_TYPES = 8, MOST_LETTERS = 6, MOST_AGE = 999;
    private static final int TAPE_SIZE = 100, TRAYS = 4, LISTS = 3, LIST_SIZE = 30;
    private static final int SETS = 1 << MOST_GRAVES;
    /** The ends of a row have no grave between two others. */
    private static final int MOST_GAPS = MOST_TYPES * (MOST_GRAVES - 2);
    private static final int MOST_ASKED = 60;
    private static final int FLAW = -100, STUCK = -300;
    private static final int END = 0, FREE = 1, FIXED = 2;

    private final Site site = new Site();
    private final Site imaged = new Site();
    private final Site draft = new Site();
    private final Plan plan = new Plan();
    private final Plan trial = new Plan();
    private final Spread spread = new Spread();
    private final Bonds bonds = new Bonds();
    private final Tree tree = new Tree();
    private final Tape tape = new Tape();
    private final Sheet sheet = new Sheet();
    private final Tray[] trays = new Tray[TRAYS];
    private final Items[] lists = new Items[LISTS];
    private final int[] row = new int[MOST_GRAVES];
    private int texts;
    private boolean hasImage, planMade, treeMade, sheetMade;

    public FindOrder() {
        for (int i = 0; i < TRAYS; i++) {
            trays[i] = new Tray();
        }
        for (int i = 0; i < LISTS; i++) {
            lists[i] = new Items();
        }
    }

    // ---- graves and types ----

    public int grave(int age) {
        if (age < 0 || age > MOST_AGE) {
            return BAD;
        }
        int number = site.dig(age);
        if (number < 0) {
            return FULL;
        }
        siteChanged();
        return number;
    }

    public int has(int grave, int type, int is) {
        if (!site.holds(grave) || !site.knows(type)) {
            return NONE;
        }
        if (is != 0 && is != 1) {
            return BAD;
        }
        int was = site.owns(grave, type) ? 1 : 0;
        site.mark(grave, type, is == 1);
        siteChanged();
        return was;
    }

    public int of(int grave, int what) {
        if (!site.holds(grave)) {
            return NONE;
        }
        switch (what) {
            case 0: return site.age[grave];
            case 1: return site.set[grave];
            case 2: return site.peers(grave);
            case 3: return site.friends(grave);
            default: return NONE;
        }
    }

    public int type(int type, int what) {
        if (!site.knows(type) || what < 0 || what > MOST_LETTERS + 1) {
            return NONE;
        }
        if (what == 0) {
            return site.owners(type);
        }
        int code = site.name[type];
        return what == 1 ? Names.length(code) : Names.letter(code, what - 2);
    }

    public int drop(int grave) {
        if (!site.holds(grave)) {
            return NONE;
        }
        site.remove(grave);
        siteChanged();
        return site.graves;
    }

    public int count(int what) {
        switch (what) {
            case 0: return site.graves;
            case 1: return site.types;
            case 2: return site.parts();
            case 3: return tape.size;
            case 4: return texts;
            case 5: return site.bare();
            default: return BAD;
        }
    }

    // ---- how many orders, which, with how many gaps ----

    public int orders(int most) {
        if (most < 0 || most > MOST_ASKED) {
            return BAD;
        }
        return spread.within(readyPlan(), most);
    }

    public int gapless(int i) {
        Plan ready = readyPlan();
        return i < 0 || i >= ready.smoothOrders() ? NONE : ready.pick(i);
    }

    public int fewest(int what) {
        if (what < 0 || what > 2) {
            return BAD;
        }
        Plan ready = readyPlan();
        switch (what) {
            case 0: return ready.least();
            case 1: return ready.ways[0];
            default: return ready.pick(0);
        }
    }

    public int ends(int first, int last, int what) {
        if (!site.holds(first) || !site.holds(last)) {
            return NONE;
        }
        if (first == last && site.graves > 1) {
            return NOT;
        }
        if (what < 0 || what > 2) {
            return BAD;
        }
        trial.make(site, site.everybody(), site.everything(), first, last);
        switch (what) {
            case 0: return trial.smoothOrders();
            case 1: return trial.least();
            default: return trial.pick(0);
        }
    }

    // ---- the tree of all gapless orders ----

    public int clusters() {
        return readyPlan().least() != 0 ? STATE : readyTree().clusterCount;
    }

    public int knots(int what) {
        if (what < 0 || what > 2) {
            return BAD;
        }
        if (readyPlan().least() != 0) {
            return STATE;
        }
        Tree ready = readyTree();
        return what == 0 ? ready.size : ready.ofSort(what == 1 ? FREE : FIXED);
    }

    public int knot(int i, int what) {
        if (readyPlan().least() != 0) {
            return STATE;
        }
        Tree ready = readyTree();
        if (i < 0 || i >= ready.size) {
            return NONE;
        }
        switch (what) {
            case 0: return ready.bits[i];
            case 1: return ready.sort[i];
            case 3: return ready.children[i];
            case 4: return ready.parent[i] < 0 ? NOT : ready.parent[i];
            default: return NONE;
        }
    }

    public long told() {
        return readyPlan().least() != 0 ? NO : readyTree().product();
    }

    public int spoils(int what) {
        if (what < 0 || what > 2) {
            return BAD;
        }
        boolean smooth = readyPlan().least() == 0;
        if (what == 1) {
            return smooth ? 0 : spoilingTypes();
        }
        int graves = smooth ? 0 : spoilingGraves();
        if (what == 0) {
            return graves;
        }
        return graves == 0 ? NOT : Integer.numberOfTrailingZeros(graves);
    }

    private int spoilingGraves() {
        int bits = 0;
        for (int g = 0; g < site.graves; g++) {
            trial.make(site, site.everybody() & ~(1 << g), site.everything(), NONE, NONE);
            if (trial.least() == 0) {
                bits |= 1 << g;
            }
        }
        return bits;
    }

    private int spoilingTypes() {
        int bits = 0;
        for (int t = 0; t < site.types; t++) {
            trial.make(site, site.everybody(), site.everything() & ~(1 << t), NONE, NONE);
            if (trial.least() == 0) {
                bits |= 1 << t;
            }
        }
        return bits;
    }

    // ---- a told order ----

    public int gaps(int order) {
        return setRow(order) ? rowGaps() : BAD;
    }

    public int runs(int order) {
        if (!setRow(order)) {
            return BAD;
        }
        int bits = 0;
        for (int t = 0; t < site.types; t++) {
            if (rowGapsOf(t) == 0) {
                bits |= 1 << t;
            }
        }
        return bits;
    }

    public int kinship(int order) {
        if (!setRow(order)) {
            return BAD;
        }
        int sum = 0;
        for (int i = 1; i < site.graves; i++) {
            sum += site.common(row[i - 1], row[i]);
        }
        return sum;
    }

    public int kin(int what) {
        if (what != 0 && what != 1) {
            return BAD;
        }
        bonds.make(site);
        return what == 0 ? bonds.greatest : bonds.firstOrder(site);
    }

    public int shared(int a, int b) {
        return site.holds(a) && site.holds(b) ? site.common(a, b) : NONE;
    }

    public int chain(int grave) {
        if (!site.holds(grave)) {
            return NONE;
        }
        int last = grave;
        int used = 1 << grave;
        int order = grave + 1;
        for (int i = 1; i < site.graves; i++) {
            last = site.nearest(last, used);
            used |= 1 << last;
            order = order * 10 + last + 1;
        }
        return order;
    }

    public int walk(int rule) {
        if (rule < 0 || rule > 3) {
            return BAD;
        }
        int used = 0;
        int order = 0;
        for (int i = 0; i < site.graves; i++) {
            int next = site.foremost(rule, used);
            used |= 1 << next;
            order = order * 10 + next + 1;
        }
        return order;
    }

    public int turned(int order) {
        if (!setRow(order)) {
            return BAD;
        }
        int answer = 0;
        for (int i = site.graves - 1; i >= 0; i--) {
            answer = answer * 10 + row[i] + 1;
        }
        return answer;
    }

    public int rank(int order) {
        return setRow(order) ? readyPlan().ahead(row, site.graves) : BAD;
    }

    public int swap(int order, int a, int b) {
        if (!setRow(order)) {
            return BAD;
        }
        if (!site.holds(a) || !site.holds(b)) {
            return NONE;
        }
        int answer = 0;
        for (int i = 0; i < site.graves; i++) {
            int g = row[i] == a ? b : row[i] == b ? a : row[i];
            answer = answer * 10 + g + 1;
        }
        return answer;
    }

    // ---- texts ----

    public int feed(int letter) {
        if (letter < 0 || letter > 127) {
            return BAD;
        }
        return tape.append(letter) ? tape.size : FULL;
    }

    public int read() {
        draft.become(site);
        int answer = tape.tellTo(draft);
        if (answer >= 0) {
            site.become(draft);
            texts++;
            siteChanged();
        }
        return answer;
    }

    public int spell() {
        return readySheet().size;
    }

    public int paper(int i) {
        Sheet ready = readySheet();
        return i < 0 || i >= ready.size ? NONE : ready.bytes[i];
    }

    // ---- trays and lists ----

    public int tray(int tray, int is) {
        if (tray < 0 || tray >= TRAYS) {
            return NONE;
        }
        if (is != 0 && is != 1) {
            return BAD;
        }
        trays[tray].there = is == 1;
        trays[tray].size = 0;
        return 1;
    }

    public int lay(int tray, int grave) {
        if (tray < 0 || tray >= TRAYS || !site.holds(grave)) {
            return NONE;
        }
        Tray chosen = trays[tray];
        if (!chosen.there) {
            return MISSING;
        }
        for (int t = 0; t < site.types; t++) {
            if (site.owns(grave, t)) {
                chosen.add(site.name[t]);
            }
        }
        return chosen.size;
    }

    public int laid(int tray, int type) {
        if (tray < 0 || tray >= TRAYS || !site.knows(type)) {
            return NONE;
        }
        Tray chosen = trays[tray];
        if (!chosen.there) {
            return MISSING;
        }
        int place = chosen.find(site.name[type]);
        return place < 0 ? NOT : chosen.counts[place];
    }

    public int list(int list, int n) {
        if (list < 0 || list >= LISTS) {
            return NONE;
        }
        if (n > LIST_SIZE) {
            return BAD;
        }
        if (n < -1) {
            return SIZE;
        }
        lists[list].become(n);
        return 1;
    }

    public int put(int list, int i, int v) {
        if (list < 0 || list >= LISTS) {
            return NONE;
        }
        Items chosen = lists[list];
        if (chosen.isMissing()) {
            return MISSING;
        }
        if (!chosen.reaches(i)) {
            return OUTSIDE;
        }
        chosen.values[i] = v;
        return 1;
    }

    public int get(int list, int i) {
        if (list < 0 || list >= LISTS || !lists[list].reaches(i)) {
            return NO_ITEM;
        }
        return lists[list].values[i];
    }

    public int fill(int list, int from) {
        if (list < 0 || list >= LISTS) {
            return NONE;
        }
        if (from < 0) {
            return BAD;
        }
        Items chosen = lists[list];
        if (chosen.isMissing()) {
            return MISSING;
        }
        Plan ready = readyPlan();
        int many = Math.max(0, Math.min(chosen.size, ready.smoothOrders() - from));
        for (int i = 0; i < many; i++) {
            chosen.values[i] = ready.pick(from + i);
        }
        return many;
    }

    public int judge(int list, int what) {
        if (list < 0 || list >= LISTS) {
            return NONE;
        }
        if (what < 0 || what > 2) {
            return BAD;
        }
        Items chosen = lists[list];
        if (chosen.isMissing()) {
            return MISSING;
        }
        for (int i = 0; i < chosen.size; i++) {
            if (!passes(chosen.values[i], i, what)) {
                return i;
            }
        }
        return NOT;
    }

    private boolean passes(int item, int number, int what) {
        if (!setRow(item)) {
            return false;
        }
        switch (what) {
            case 0: return true;
            case 1: return rowGaps() == 0;
            default: return rowGaps() == 0 && readyPlan().ahead(row, site.graves) == number;
        }
    }

    // ---- the image ----

    public int image() {
        imaged.become(site);
        hasImage = true;
        return site.graves;
    }

    public int undo() {
        if (!hasImage) {
            return STATE;
        }
        site.become(imaged);
        siteChanged();
        return site.graves;
    }

    // ---- what is made again only after the site has changed ----

    private void siteChanged() {
        planMade = false;
        treeMade = false;
        sheetMade = false;
    }

    private Plan readyPlan() {
        if (!planMade) {
            plan.make(site, site.everybody(), site.everything(), NONE, NONE);
            planMade = true;
        }
        return plan;
    }

    private Tree readyTree() {
        if (!treeMade) {
            tree.make(readyPlan());
            treeMade = true;
        }
        return tree;
    }

    private Sheet readySheet() {
        if (!sheetMade) {
            sheet.write(site);
            sheetMade = true;
        }
        return sheet;
    }

    // ---- the row of an order that a call tells ----

    /** Whether it is an order; if so, the row is its graves from the first on. */
    private boolean setRow(int order) {
        int rest = order;
        int met = 0;
        for (int i = site.graves - 1; i >= 0; i--) {
            int g = rest % 10 - 1;
            rest /= 10;
            if (!site.holds(g) || (met >> g & 1) != 0) {
                return false;
            }
            met |= 1 << g;
            row[i] = g;
        }
        return rest == 0;
    }

    private int rowGaps() {
        int sum = 0;
        for (int t = 0; t < site.types; t++) {
            sum += rowGapsOf(t);
        }
        return sum;
    }

    private int rowGapsOf(int type) {
        int sum = 0;
        int open = 0;
        boolean met = false;
        for (int i = 0; i < site.graves; i++) {
            if (site.owns(row[i], type)) {
                sum += open;
                open = 0;
                met = true;
            } else if (met) {
                open++;
            }
        }
        return sum;
    }

    /** A name as a number to the base 27, six figures from the left: lesser numbers are lesser names. */
    private static final class Names {
        static final int BASE = 27;
        private static final int[] WORTH = {14348907, 531441, 19683, 729, 27, 1};

        static int length(int code) {
            int many = 0;
            for (int i = 0; i < MOST_LETTERS && letter(code, i) >= 0; i++) {
                many++;
            }
            return many;
        }

        /** The letter at a place, NONE behind the last. */
        static int letter(int code, int place) {
            if (place < 0 || place >= MOST_LETTERS) {
                return NONE;
            }
            int figure = code / WORTH[place] % BASE;
            return figure == 0 ? NONE : 'a' + figure - 1;
        }
    }

    /** What an image keeps: graves, types and their names. */
    private static final class Site {
        int graves;
        int types;
        final int[] age = new int[MOST_GRAVES];
        final int[] set = new int[MOST_GRAVES];
        final int[] name = new int[MOST_TYPES];

        void become(Site other) {
            graves = other.graves;
            types = other.types;
            System.arraycopy(other.age, 0, age, 0, MOST_GRAVES);
            System.arraycopy(other.set, 0, set, 0, MOST_GRAVES);
            System.arraycopy(other.name, 0, name, 0, MOST_TYPES);
        }

        boolean holds(int grave) {
            return grave >= 0 && grave < graves;
        }

        boolean knows(int type) {
            return type >= 0 && type < types;
        }

        int everybody() {
            return (1 << graves) - 1;
        }

        int everything() {
            return (1 << types) - 1;
        }

        /** The new grave's number, NONE without room. */
        int dig(int years) {
            if (graves >= MOST_GRAVES) {
                return NONE;
            }
            age[graves] = years;
            set[graves] = 0;
            return graves++;
        }

        void remove(int grave) {
            for (int g = grave; g + 1 < graves; g++) {
                age[g] = age[g + 1];
                set[g] = set[g + 1];
            }
            graves--;
        }

        /** The type of a name, which comes if it is new; NONE without room. */
        int named(int code) {
            for (int t = 0; t < types; t++) {
                if (name[t] == code) {
                    return t;
                }
            }
            if (types >= MOST_TYPES) {
                return NONE;
            }
            name[types] = code;
            return types++;
        }

        boolean owns(int grave, int type) {
            return holds(grave) && (set[grave] >> type & 1) != 0;
        }

        /** Whether there are such a grave and such a type. */
        boolean mark(int grave, int type, boolean is) {
            if (!holds(grave) || !knows(type)) {
                return false;
            }
            set[grave] = is ? set[grave] | 1 << type : set[grave] & ~(1 << type);
            return true;
        }

        int owners(int type) {
            int bits = 0;
            for (int g = 0; g < graves; g++) {
                if (owns(g, type)) {
                    bits |= 1 << g;
                }
            }
            return bits;
        }

        int common(int a, int b) {
            return holds(a) && holds(b) ? Integer.bitCount(set[a] & set[b]) : 0;
        }

        int peers(int grave) {
            int many = 0;
            for (int g = 0; g < graves; g++) {
                if (set[g] == set[grave] && age[g] % 100 == age[grave] % 100) {
                    many++;
                }
            }
            return many;
        }

        int friends(int grave) {
            int many = 0;
            for (int g = 0; g < graves; g++) {
                if (g != grave && common(g, grave) > 0) {
                    many++;
                }
            }
            return many;
        }

        int bare() {
            int many = 0;
            for (int g = 0; g < graves; g++) {
                if (set[g] == 0) {
                    many++;
                }
            }
            return many;
        }

        int parts() {
            int met = 0;
            int many = 0;
            for (int g = 0; g < graves; g++) {
                if ((met >> g & 1) == 0) {
                    met |= partOf(g);
                    many++;
                }
            }
            return many;
        }

        private int partOf(int grave) {
            int bits = 1 << grave;
            // one more grave at least joins by each round but the last
            for (int round = 0; round < graves; round++) {
                for (int g = 0; g < graves; g++) {
                    if (sharesWithin(g, bits)) {
                        bits |= 1 << g;
                    }
                }
            }
            return bits;
        }

        private boolean sharesWithin(int grave, int bits) {
            for (int g = 0; g < graves; g++) {
                if ((bits >> g & 1) != 0 && common(grave, g) > 0) {
                    return true;
                }
            }
            return false;
        }

        /** The next of a chain: of those not used the one that shares most with the last. */
        int nearest(int last, int used) {
            int best = NONE;
            for (int g = 0; g < graves; g++) {
                if ((used >> g & 1) == 0 && (best < 0 || isNearer(g, best, last))) {
                    best = g;
                }
            }
            return best;
        }

        private boolean isNearer(int grave, int other, int last) {
            int more = common(grave, last) - common(other, last);
            return more > 0 || more == 0 && age[grave] < age[other];
        }

        /** The next of a walk: of those not used the one that the rule puts ahead. */
        int foremost(int rule, int used) {
            int best = NONE;
            int bestWeight = 0;
            for (int g = 0; g < graves; g++) {
                if ((used >> g & 1) == 0) {
                    int weight = weight(g, rule);
                    if (best < 0 || weight > bestWeight) {
                        best = g;
                        bestWeight = weight;
                    }
                }
            }
            return best;
        }

        private int weight(int grave, int rule) {
            switch (rule) {
                case 0: return -age[grave];
                case 1: return Integer.bitCount(set[grave]);
                case 2: return friends(grave);
                default: return -set[grave];
            }
        }

        /** Of a grave's types the one with the least name behind a code; NONE if there is none. */
        int typeBehind(int grave, int code) {
            int best = NONE;
            for (int t = 0; t < types; t++) {
                if (owns(grave, t) && name[t] > code && (best < 0 || name[t] < name[best])) {
                    best = t;
                }
            }
            return best;
        }
    }

    /**
     * The orders of some graves by some types. How many gaps a grave makes depends only on which graves stand ahead
     * of it, not on their order, so it is enough to know of each such set the best that the rest can do.
     */
    private static final class Plan {
        /** More than any order's gaps: no order goes on from here. */
        private static final int FAR = 1000;

        final int[] set = new int[MOST_GRAVES];
        /** By sets of graves: the types within. */
        final int[] seen = new int[SETS];
        /** By sets of graves that stand ahead: the fewest gaps of the rest, and in how many orders of it. */
        final int[] tail = new int[SETS];
        final int[] ways = new int[SETS];
        int all;
        int first;
        int last;

        /** A first or last grave below 0 is any. */
        void make(Site site, int graves, int types, int firstGrave, int lastGrave) {
            all = graves;
            first = firstGrave;
            last = lastGrave;
            for (int g = 0; g < MOST_GRAVES; g++) {
                set[g] = site.holds(g) ? site.set[g] & types : 0;
            }
            for (int bits = 1; bits <= all; bits++) {
                seen[bits] = seen[bits & bits - 1] | set[Integer.numberOfTrailingZeros(bits)];
            }
            for (int bits = all; bits >= 0; bits--) {
                if ((bits & ~all) == 0) {
                    settle(bits);
                }
            }
        }

        private void settle(int bits) {
            int best = bits == all ? 0 : FAR;
            int many = bits == all ? 1 : 0;
            for (int g = 0; g < MOST_GRAVES; g++) {
                if (mayFollow(bits, g)) {
                    int next = bits | 1 << g;
                    int cost = toll(bits, g) + tail[next];
                    if (cost < best) {
                        best = cost;
                        many = 0;
                    }
                    if (cost == best) {
                        many += ways[next];
                    }
                }
            }
            tail[bits] = best;
            ways[bits] = many;
        }

        boolean mayFollow(int bits, int g) {
            int bit = 1 << g;
            if ((all & ~bits & bit) == 0) {
                return false;
            }
            if (first >= 0 && (g == first) != (bits == 0)) {
                return false;
            }
            return last < 0 || (g == last) == ((bits | bit) == all);
        }

        /** How many types a grave parts that follows on those ahead. */
        int toll(int bits, int g) {
            return Integer.bitCount(seen[bits] & seen[all & ~bits & ~(1 << g)] & ~set[g]);
        }

        /** Whether one of the best orders of those behind the bits begins with a grave. */
        boolean isBest(int bits, int g) {
            return mayFollow(bits, g) && toll(bits, g) + tail[bits | 1 << g] == tail[bits];
        }

        int least() {
            return tail[0];
        }

        int smoothOrders() {
            return tail[0] == 0 ? ways[0] : 0;
        }

        /** Of the orders with the fewest gaps the one of a number. */
        int pick(int number) {
            int left = number;
            int bits = 0;
            int order = 0;
            for (int place = Integer.bitCount(all); place > 0; place--) {
                for (int g = 0; g < MOST_GRAVES; g++) {
                    if (isBest(bits, g)) {
                        int next = bits | 1 << g;
                        if (left < ways[next]) {
                            bits = next;
                            order = order * 10 + g + 1;
                            break;
                        }
                        left -= ways[next];
                    }
                }
            }
            return order;
        }

        /** How many gapless orders are ahead of a row. */
        int ahead(int[] row, int length) {
            int many = 0;
            int bits = 0;
            for (int i = 0; i < length && i < row.length && tail[0] == 0; i++) {
                for (int g = 0; g < row[i]; g++) {
                    if (isBest(bits, g)) {
                        many += ways[bits | 1 << g];
                    }
                }
                if (!isBest(bits, row[i])) {
                    break;
                }
                bits |= 1 << row[i];
            }
            return many;
        }
    }

    /** By sets of graves that stand ahead: in how many orders the rest makes just so many gaps. */
    private static final class Spread {
        private final int[][] ways = new int[SETS][MOST_GAPS + 1];

        int within(Plan plan, int most) {
            for (int bits = plan.all; bits >= 0; bits--) {
                settle(plan, bits);
            }
            int sum = 0;
            for (int gaps = 0; gaps <= MOST_GAPS && gaps <= most; gaps++) {
                sum += ways[0][gaps];
            }
            return sum;
        }

        private void settle(Plan plan, int bits) {
            int[] here = ways[bits];
            for (int gaps = 0; gaps <= MOST_GAPS; gaps++) {
                here[gaps] = 0;
            }
            if (bits == plan.all) {
                here[0] = 1;
            }
            for (int g = 0; g < MOST_GRAVES; g++) {
                if (plan.mayFollow(bits, g)) {
                    int toll = plan.toll(bits, g);
                    int[] next = ways[bits | 1 << g];
                    for (int gaps = toll; gaps <= MOST_GAPS; gaps++) {
                        here[gaps] += next[gaps - toll];
                    }
                }
            }
        }
    }

    /** By sets of graves that stand ahead and the last of them: the greatest kinship that the rest can add. */
    private static final class Bonds {
        private final int[][] best = new int[SETS][MOST_GRAVES];
        int greatest;

        void make(Site site) {
            for (int bits = site.everybody(); bits > 0; bits--) {
                for (int g = 0; g < site.graves; g++) {
                    best[bits][g] = bestFrom(site, bits, g);
                }
            }
            greatest = 0;
            for (int g = 0; g < site.graves; g++) {
                greatest = Math.max(greatest, best[1 << g][g]);
            }
        }

        private int bestFrom(Site site, int bits, int last) {
            int most = 0;
            for (int g = 0; g < site.graves; g++) {
                if ((bits >> g & 1) == 0) {
                    most = Math.max(most, site.common(last, g) + best[bits | 1 << g][g]);
                }
            }
            return most;
        }

        int firstOrder(Site site) {
            int due = greatest;
            int bits = 0;
            int last = NONE;
            int order = 0;
            for (int i = 0; i < site.graves; i++) {
                for (int g = 0; g < site.graves; g++) {
                    int added = site.common(last, g);
                    if ((bits >> g & 1) == 0 && added + best[bits | 1 << g][g] == due) {
                        due -= added;
                        bits |= 1 << g;
                        last = g;
                        order = order * 10 + g + 1;
                        break;
                    }
                }
            }
            return order;
        }
    }

    /** Clusters and knots of a plan that has gapless orders. */
    private static final class Tree {
        /** The leaves and, as each other knot has two children or more, fewer than leaves again. */
        private static final int MOST_KNOTS = 2 * MOST_GRAVES - 1;

        private final boolean[] isCluster = new boolean[SETS];
        private final boolean[] isReached = new boolean[SETS];
        private int all;
        int clusterCount;
        int size;
        final int[] bits = new int[MOST_KNOTS];
        final int[] sort = new int[MOST_KNOTS];
        final int[] children = new int[MOST_KNOTS];
        final int[] parent = new int[MOST_KNOTS];

        void make(Plan plan) {
            all = plan.all;
            findClusters(plan);
            findKnots();
            for (int i = 0; i < size; i++) {
                children[i] = 0;
            }
            for (int i = 0; i < size; i++) {
                parent[i] = leastAround(i);
                if (parent[i] >= 0) {
                    children[parent[i]]++;
                }
            }
            for (int i = 0; i < size; i++) {
                sort[i] = sortOf(i);
            }
        }

        /** Each step that a gapless order takes, from those ahead to one more, parts the sets that it passes by. */
        private void findClusters(Plan plan) {
            for (int set = 0; set <= all; set++) {
                isCluster[set] = set != 0;
                isReached[set] = set == 0;
            }
            for (int ahead = 0; ahead <= all; ahead++) {
                for (int g = 0; g < MOST_GRAVES; g++) {
                    if (isReached[ahead] && plan.isBest(ahead, g)) {
                        isReached[ahead | 1 << g] = true;
                        partPassed(ahead, 1 << g);
                    }
                }
            }
            clusterCount = 0;
            for (int set = 1; set <= all; set++) {
                if (isCluster[set]) {
                    clusterCount++;
                }
            }
        }

        private void partPassed(int ahead, int bit) {
            int behind = all & ~ahead & ~bit;
            for (int set = 1; set <= all; set++) {
                if ((set & bit) == 0 && (set & ahead) != 0 && (set & behind) != 0) {
                    isCluster[set] = false;
                }
            }
        }

        private void findKnots() {
            size = 0;
            for (int graves = 1; graves <= MOST_GRAVES; graves++) {
                for (int set = 1; set <= all; set++) {
                    if (Integer.bitCount(set) == graves && isKnot(set) && size < MOST_KNOTS) {
                        bits[size] = set;
                        size++;
                    }
                }
            }
        }

        private boolean isKnot(int set) {
            if (!isCluster[set]) {
                return false;
            }
            for (int other = 1; other <= all; other++) {
                if (isCluster[other] && (set & other) != 0 && (set & ~other) != 0 && (other & ~set) != 0) {
                    return false;
                }
            }
            return true;
        }

        /** Knots around a knot lie one within the other, so the first of them is the least. */
        private int leastAround(int knot) {
            for (int i = knot + 1; i < size; i++) {
                if ((bits[knot] & ~bits[i]) == 0) {
                    return i;
                }
            }
            return NONE;
        }

        private int sortOf(int knot) {
            if (children[knot] < 2) {
                return END;
            }
            return children[knot] > 2 && hasPair(knot) ? FIXED : FREE;
        }

        private boolean hasPair(int knot) {
            for (int a = 0; a < knot; a++) {
                for (int b = 0; b < a; b++) {
                    if (parent[a] == knot && parent[b] == knot && isCluster[bits[a] | bits[b]]) {
                        return true;
                    }
                }
            }
            return false;
        }

        int ofSort(int wanted) {
            int many = 0;
            for (int i = 0; i < size; i++) {
                if (sort[i] == wanted) {
                    many++;
                }
            }
            return many;
        }

        long product() {
            long product = 1;
            for (int i = 0; i < size; i++) {
                // an end has a single way: its factor stays 1
                for (int k = 2; k <= children[i] && sort[i] == FREE; k++) {
                    product *= k;
                }
                if (sort[i] == FIXED) {
                    product *= 2;
                }
            }
            return product;
        }
    }

    /** The tape, and how it is read as a text. */
    private static final class Tape {
        private final int[] bytes = new int[TAPE_SIZE];
        int size;
        private int at;
        private int number;
        private int word;
        private boolean able;

        boolean append(int letter) {
            if (size >= TAPE_SIZE) {
                return false;
            }
            bytes[size] = letter;
            size++;
            return true;
        }

        /** How many statements; a fault leaves the site half told. */
        int tellTo(Site site) {
            int answer = statements(site);
            size = 0;
            return answer;
        }

        private int statements(Site site) {
            int stuck = NONE;
            at = 0;
            for (int many = 1; many <= TAPE_SIZE; many++) {
                int start = at;
                if (!statement(site)) {
                    break;
                }
                if (!able && stuck < 0) {
                    stuck = start;
                }
                if (at >= size) {
                    return stuck < 0 ? many : STUCK - stuck;
                }
                if (here() != ';') {
                    break;
                }
                at++;
            }
            return FLAW - at;
        }

        /** Whether the bytes are a statement's; if not, the place is that of the first that is wrong. */
        private boolean statement(Site site) {
            int sign = here();
            return sign == '+' || sign == '-' ? correction(site, sign == '+') : burial(site);
        }

        private boolean correction(Site site, boolean is) {
            at++;
            if (!figures(1) || !letters()) {
                return false;
            }
            able = site.mark(number, site.named(word), is);
            return true;
        }

        private boolean burial(Site site) {
            if (!figures(3) || here() != ':') {
                return false;
            }
            at++;
            int grave = site.dig(number);
            able = grave >= 0;
            if (!isLetter(here())) {
                return true;
            }
            for (int i = 0; i < TAPE_SIZE; i++) {
                if (!letters()) {
                    return false;
                }
                int type = site.named(word);
                able = able && !site.owns(grave, type) && site.mark(grave, type, true);
                if (here() != ',') {
                    return true;
                }
                at++;
            }
            return false;
        }

        private boolean figures(int most) {
            int start = at;
            number = 0;
            for (int i = 0; i < most && here() >= '0' && here() <= '9'; i++) {
                number = number * 10 + here() - '0';
                at++;
            }
            return at > start;
        }

        private boolean letters() {
            int start = at;
            word = 0;
            for (int i = 0; i < MOST_LETTERS; i++) {
                word *= Names.BASE;
                if (at == start + i && isLetter(here())) {
                    word += here() - 'a' + 1;
                    at++;
                }
            }
            return at > start;
        }

        private static boolean isLetter(int letter) {
            return letter >= 'a' && letter <= 'z';
        }

        private int here() {
            return at >= 0 && at < size ? bytes[at] : NONE;
        }
    }

    /** The paper that tells the graves. */
    private static final class Sheet {
        private static final int MOST_BYTES = MOST_GRAVES * (4 + MOST_TYPES * (MOST_LETTERS + 1));

        final int[] bytes = new int[MOST_BYTES];
        int size;

        void write(Site site) {
            size = 0;
            for (int g = 0; g < site.graves; g++) {
                if (g > 0) {
                    append(';');
                }
                writeAge(site.age[g]);
                append(':');
                writeNames(site, g);
            }
        }

        private void writeAge(int age) {
            if (age > 99) {
                append('0' + age / 100);
            }
            if (age > 9) {
                append('0' + age / 10 % 10);
            }
            append('0' + age % 10);
        }

        private void writeNames(Site site, int grave) {
            int type = site.typeBehind(grave, 0);
            for (int i = 0; i < MOST_TYPES && type >= 0; i++) {
                if (i > 0) {
                    append(',');
                }
                int code = site.name[type];
                int length = Names.length(code);
                for (int place = 0; place < length; place++) {
                    append(Names.letter(code, place));
                }
                type = site.typeBehind(grave, code);
            }
        }

        private void append(int letter) {
            if (size < MOST_BYTES) {
                bytes[size] = letter;
                size++;
            }
        }
    }

    /** How often each name was put to a tray. */
    private static final class Tray {
        /** A name takes a call of feed at least, and an object has 512 calls. */
        private static final int MOST_NAMES = 512;

        boolean there;
        int size;
        final int[] names = new int[MOST_NAMES];
        final int[] counts = new int[MOST_NAMES];

        int find(int code) {
            for (int i = 0; i < size; i++) {
                if (names[i] == code) {
                    return i;
                }
            }
            return NONE;
        }

        void add(int code) {
            int place = find(code);
            if (place >= 0) {
                counts[place]++;
            } else if (size < MOST_NAMES) {
                names[size] = code;
                counts[size] = 1;
                size++;
            }
        }
    }

    /** A list's ints; a size below 0 is a missing list's. */
    private static final class Items {
        int size = -1;
        final int[] values = new int[LIST_SIZE];

        void become(int n) {
            size = n;
            for (int i = 0; i < LIST_SIZE; i++) {
                values[i] = 0;
            }
        }

        boolean isMissing() {
            return size < 0;
        }

        boolean reaches(int i) {
            return i >= 0 && i < size;
        }
    }
}
