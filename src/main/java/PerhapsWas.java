import java.util.Arrays;

/** Runs of processes whose true order no one saw; what each call answers stands in DOC.md. */
public final class PerhapsWas {
    public static final int NONE = -1, BAD = -2, STATE = -3, FULL = -4;

    private static final int MOST_PROCESSES = 4;
    private static final int MOST_EVENTS = 6;
    private static final int MOST_OF_ALL = 24;
    private static final int NAMES = 3;
    private static final int MOST_CONDITIONS = 8;
    private static final int MOST_PARTS = 15;
    private static final int MOST_TOPS = 6;
    private static final int AN_ORDER = 100;

    private static final int BASE = 7;
    private static final int CUT_NUMBERS = 2401;
    private static final int[] WEIGHTS = {1, 7, 49, 343};

    private static final int OWN = 0, ADD = 1, SEND = 2, TAKE = 3, WAIT = 4;

    // Parts 0 to 7 are the document's ops; those without sides are numbered behind them.
    private static final int PLUS = 0, MINUS = 1, TIMES = 2, LESS = 3, ALIKE = 4, BOTH = 5, EITHER = 6, NOT = 7;
    private static final int NAME = 8, UNDER_WAY = 9, EVENTS = 10, NUMBER = 11;

    private final History history;
    private final Net net;
    private final Pile pile;
    private final Conditions conditions;
    private final Moment moment;
    private final Marks marks;
    private final Ways ways;
    private final Row row;
    private int refusal;

    public PerhapsWas() {
        history = new History();
        net = new Net(history);
        pile = new Pile();
        conditions = new Conditions();
        moment = new Moment(history);
        marks = new Marks(moment);
        ways = new Ways();
        row = new Row();
        refusal = 0;
    }

    // ---- events

    public int process() {
        if (history.processes >= MOST_PROCESSES) {
            return FULL;
        }
        history.processes++;
        return history.processes - 1;
    }

    public int own(int p, int name, int v, int add) {
        if (!history.hasProcess(p) || name < 0 || name >= NAMES) {
            return NONE;
        }
        if (add != 0 && add != 1) {
            return BAD;
        }
        if (history.isFull(p)) {
            return FULL;
        }
        return history.change(p, name, v, add == 1);
    }

    public int send(int p, int q) {
        int refused = refusalOfPair(p, q);
        return refused != 0 ? refused : history.sendOut(p, q);
    }

    public int take(int letter) {
        Letters letters = history.letters;
        if (!letters.has(letter)) {
            return NONE;
        }
        if (letters.taken[letter] != NONE) {
            return STATE;
        }
        if (history.isFull(letters.to[letter])) {
            return FULL;
        }
        return history.takeIn(letter);
    }

    public int wait(int p, int q) {
        int refused = refusalOfPair(p, q);
        return refused != 0 ? refused : history.awaitAll(p, q);
    }

    /** What an event of p about another process q is refused with; 0 if it is not. */
    private int refusalOfPair(int p, int q) {
        if (!history.hasProcess(p) || !history.hasProcess(q)) {
            return NONE;
        }
        if (p == q) {
            return BAD;
        }
        return history.isFull(p) ? FULL : 0;
    }

    public int undo() {
        return history.total == 0 ? STATE : history.takeBack();
    }

    public int event(int p, int i, int what) {
        if (!history.hasEvent(p, i)) {
            return NONE;
        }
        int at = History.place(p, i);
        switch (what) {
            case 0:
                return history.kinds[at];
            case 1:
                return history.subjects[at];
            case 2:
                return history.turns[at];
            default:
                return NONE;
        }
    }

    public int letter(int l, int what) {
        Letters letters = history.letters;
        if (!letters.has(l)) {
            return NONE;
        }
        switch (what) {
            case 0:
                return letters.from[l];
            case 1:
                return letters.to[l];
            case 2:
                return letters.sent[l];
            case 3:
                return letters.taken[l];
            default:
                return NONE;
        }
    }

    public int ahead(int p, int i, int q, int j) {
        if (!history.hasEvent(p, i) || !history.hasEvent(q, j)) {
            return NONE;
        }
        if (p == q && i == j) {
            return 0;
        }
        if (history.clockOf(q, j, p) > i) {
            return 1;
        }
        return history.clockOf(p, i, q) > j ? 2 : 3;
    }

    public int clock(int p, int i, int q) {
        if (!history.hasEvent(p, i) || !history.hasProcess(q)) {
            return NONE;
        }
        return history.clockOf(p, i, q);
    }

    // ---- cuts and orders

    public int possible(int cut) {
        if (!history.hasCut(cut)) {
            return NONE;
        }
        return freshNet().allowed[cut] ? 1 : 0;
    }

    public int cuts(int size) {
        if (size < -1) {
            return BAD;
        }
        Net fresh = freshNet();
        return size == -1 ? fresh.total : fresh.howManyOf(size);
    }

    public int next(int cut) {
        if (cut != -1 && !history.hasCut(cut)) {
            return NONE;
        }
        return cut == -1 ? freshNet().inOrder[0] : freshNet().firstBehind(cut);
    }

    public int join(int a, int b, int meet) {
        if (!history.hasCut(a) || !history.hasCut(b)) {
            return NONE;
        }
        if (meet != 0 && meet != 1) {
            return BAD;
        }
        return Net.combine(a, b, meet == 1);
    }

    public int least(int p, int i) {
        if (!history.hasProcess(p) || i < 0 || i > history.had[p]) {
            return NONE;
        }
        return i == 0 ? 0 : history.leastWith(p, i - 1);
    }

    // 24! / (6! 6! 6! 6!) is the most that can be, some 2.3 * 10^12: 10^18 is never reached.
    public long orders() {
        Net fresh = freshNet();
        marks.wipe(fresh);
        return ways.fill(fresh, marks.holds);
    }

    public int order(long n, int i) {
        if (n < 0 || i < 0 || i >= history.total || n >= orders()) {
            return NONE;
        }
        return ways.processAt(freshNet(), n, i);
    }

    // ---- conditions

    public int number(int v) {
        return pile.tops >= MOST_TOPS ? FULL : pile.push(NUMBER, v, 0);
    }

    public int part(int what, int a, int b) {
        if (what < 0 || what > 2 || !mayBeProcess(a) || !mayBeProcess(b) || (what == 0 && b >= NAMES)) {
            return NONE;
        }
        if ((what == 1 && a == b) || (what == 2 && b != 0)) {
            return BAD;
        }
        return pile.tops >= MOST_TOPS ? FULL : pile.push(NAME + what, a, b);
    }

    private static boolean mayBeProcess(int p) {
        return p >= 0 && p < MOST_PROCESSES;
    }

    public int op(int op) {
        if (op < PLUS || op > NOT) {
            return NONE;
        }
        if (pile.tops < Formula.sidesOf(op)) {
            return STATE;
        }
        return pile.partsBehind(op) > MOST_PARTS ? FULL : pile.unite(op);
    }

    public int condition() {
        if (pile.tops != 1) {
            return STATE;
        }
        if (conditions.total >= MOST_CONDITIONS) {
            return FULL;
        }
        pile.tops = 0;
        return conditions.keep(pile.formulas[0]);
    }

    public int clear(int all) {
        if (all != 0 && all != 1) {
            return BAD;
        }
        int went = pile.tops + (all == 1 ? conditions.total : 0);
        pile.tops = 0;
        if (all == 1) {
            conditions.total = 0;
        }
        return went;
    }

    public int value(int c, int cut) {
        if (!conditions.has(c) || !history.hasCut(cut)) {
            refusal = NONE;
            return 0;
        }
        refusal = 0;
        return moment.worth(conditions.formulas[c], cut);
    }

    public int status() {
        return refusal;
    }

    public int may(int c) {
        return conditions.has(c) ? markedNet(c).firstOf(marks.holds) : NONE;
    }

    public int last(int c) {
        return conditions.has(c) ? markedNet(c).lastOf(marks.holds) : NONE;
    }

    public int many(int c) {
        return conditions.has(c) ? markedNet(c).howManyIn(marks.holds) : NONE;
    }

    public int sure(int c) {
        if (!conditions.has(c)) {
            return NONE;
        }
        return avoids(c) == 0 ? 1 : 0;
    }

    public int avoid(int c, int i) {
        if (!conditions.has(c) || i < 0 || i >= history.total || avoids(c) == 0) {
            return NONE;
        }
        return ways.processAt(freshNet(), 0, i);
    }

    public long avoids(int c) {
        return conditions.has(c) ? ways.fill(markedNet(c), marks.holds) : NONE;
    }

    public int is(int c, int what) {
        if (!conditions.has(c) || what < 0 || what > 2) {
            return NONE;
        }
        Net fresh = markedNet(c);
        boolean so = what == 0 ? marks.areKept(fresh) : what == 1 ? marks.areMet(fresh) : marks.areJoined(fresh);
        return so ? 1 : 0;
    }

    public int before(int c, int d) {
        if (!conditions.has(c) || !conditions.has(d)) {
            return NONE;
        }
        long unguarded = ways.fillUntil(markedNet(c), marks.holds, moment, conditions.formulas[d]);
        return unguarded == 0 ? 1 : 0;
    }

    // ---- a told order

    public int say(int p) {
        if (!mayBeProcess(p)) {
            return BAD;
        }
        return row.length >= MOST_OF_ALL ? FULL : row.append(p);
    }

    public int check() {
        int length = row.length;
        int right = row.rightPlaces(freshNet());
        row.length = 0;
        return right == length && length == history.total ? AN_ORDER : right;
    }

    public int passes(int c) {
        if (!conditions.has(c)) {
            return NONE;
        }
        if (row.rightPlaces(freshNet()) < row.length) {
            return STATE;
        }
        return row.firstAt(moment, conditions.formulas[c]);
    }

    public int count(int what) {
        switch (what) {
            case 0:
                return history.processes;
            case 1:
                return history.total;
            case 2:
                return history.letters.total;
            case 3:
                return history.letters.howManyUntaken();
            case 4:
                return conditions.total;
            case 5:
                return pile.tops;
            case 6:
                return row.length;
            default:
                return NONE;
        }
    }

    /** The only way to the net, so that no call sees one from ahead of the latest event. */
    private Net freshNet() {
        net.refresh();
        return net;
    }

    /** The net, with marks where condition c holds. */
    private Net markedNet(int c) {
        Net fresh = freshNet();
        marks.set(fresh, conditions.formulas[c]);
        return fresh;
    }

    /** The letters, as they were sent. */
    private static final class Letters {
        final int[] from = new int[MOST_OF_ALL];
        final int[] to = new int[MOST_OF_ALL];
        final int[] sent = new int[MOST_OF_ALL];
        final int[] taken = new int[MOST_OF_ALL];
        int total;

        boolean has(int l) {
            return l >= 0 && l < total;
        }

        int write(int p, int q, int i) {
            int l = total;
            from[l] = p;
            to[l] = q;
            sent[l] = i;
            taken[l] = NONE;
            total++;
            return l;
        }

        int howManyUntaken() {
            int untaken = 0;
            for (int l = 0; l < total; l++) {
                if (taken[l] == NONE) {
                    untaken++;
                }
            }
            return untaken;
        }
    }

    /** The processes' rows of events, with each event's clock and the values behind it. */
    private static final class History {
        final Letters letters = new Letters();
        final int[] had = new int[MOST_PROCESSES];
        final int[] came = new int[MOST_OF_ALL];
        final int[] kinds = new int[MOST_OF_ALL];
        final int[] subjects = new int[MOST_OF_ALL];
        final int[] turns = new int[MOST_OF_ALL];
        final int[] clocks = new int[MOST_OF_ALL * MOST_PROCESSES];
        final int[] values = new int[MOST_PROCESSES * (MOST_EVENTS + 1) * NAMES];
        int processes;
        int total;
        int changes;

        static int place(int p, int i) {
            return p * MOST_EVENTS + i;
        }

        /** Where the value of a name stands as it is behind the first i events of p. */
        static int valuePlace(int p, int i, int name) {
            return (p * (MOST_EVENTS + 1) + i) * NAMES + name;
        }

        boolean hasProcess(int p) {
            return p >= 0 && p < processes;
        }

        boolean hasEvent(int p, int i) {
            return hasProcess(p) && i >= 0 && i < had[p];
        }

        boolean hasCut(int cut) {
            if (cut < 0 || cut >= CUT_NUMBERS) {
                return false;
            }
            int rest = cut;
            for (int p = 0; p < MOST_PROCESSES; p++) {
                if (rest % BASE > had[p]) {
                    return false;
                }
                rest /= BASE;
            }
            return true;
        }

        boolean isFull(int p) {
            return had[p] >= MOST_EVENTS;
        }

        int clockOf(int p, int i, int q) {
            return clocks[(p * MOST_EVENTS + i) * MOST_PROCESSES + q];
        }

        /** An event's clock is the least possible cut with that event. */
        int leastWith(int p, int i) {
            int cut = 0;
            for (int q = 0; q < MOST_PROCESSES; q++) {
                cut += clockOf(p, i, q) * WEIGHTS[q];
            }
            return cut;
        }

        int change(int p, int name, int v, boolean add) {
            int events = append(p, add ? ADD : OWN, name);
            int at = valuePlace(p, events, name);
            values[at] = add ? values[at] + v : v;
            return events;
        }

        int sendOut(int p, int q) {
            int l = letters.write(p, q, had[p]);
            append(p, SEND, l);
            return l;
        }

        int takeIn(int l) {
            int p = letters.to[l];
            letters.taken[l] = had[p];
            int events = append(p, TAKE, l);
            follow(p, letters.from[l], letters.sent[l]);
            return events;
        }

        int awaitAll(int p, int q) {
            int events = append(p, WAIT, q);
            if (had[q] > 0) {
                follow(p, q, had[q] - 1);
            }
            return events;
        }

        /** As if only the events of its own row were ahead of the new one. */
        private int append(int p, int kind, int subject) {
            int i = had[p];
            int at = place(p, i);
            kinds[at] = kind;
            subjects[at] = subject;
            turns[at] = total;
            came[total] = p;
            for (int q = 0; q < MOST_PROCESSES; q++) {
                clocks[at * MOST_PROCESSES + q] = i == 0 ? 0 : clockOf(p, i - 1, q);
            }
            clocks[at * MOST_PROCESSES + p] = i + 1;
            for (int name = 0; name < NAMES; name++) {
                values[valuePlace(p, i + 1, name)] = values[valuePlace(p, i, name)];
            }
            had[p] = i + 1;
            total++;
            changes++;
            return i + 1;
        }

        /** Event j of q, and so all that is ahead of it, is ahead of the latest event of p. */
        private void follow(int p, int q, int j) {
            int at = place(p, had[p] - 1) * MOST_PROCESSES;
            for (int r = 0; r < MOST_PROCESSES; r++) {
                clocks[at + r] = Math.max(clocks[at + r], clockOf(q, j, r));
            }
        }

        // The latest SEND's letter is the latest letter, and not taken: its TAKE would be later.
        int takeBack() {
            total--;
            changes++;
            int p = came[total];
            had[p]--;
            int at = place(p, had[p]);
            if (kinds[at] == SEND) {
                letters.total--;
            } else if (kinds[at] == TAKE) {
                letters.taken[subjects[at]] = NONE;
            }
            return p;
        }
    }

    /** All possible cuts, in order. */
    private static final class Net {
        final History history;
        final int[] inOrder = new int[CUT_NUMBERS];
        final boolean[] allowed = new boolean[CUT_NUMBERS];
        /** Behind which place of inOrder the cuts of a size end. */
        final int[] ends = new int[MOST_OF_ALL + 1];
        final int[] counts = new int[MOST_PROCESSES];
        int total;
        int whole;
        private int seenChanges = -1;

        Net(History history) {
            this.history = history;
        }

        static int shareOf(int cut, int p) {
            int rest = cut;
            for (int q = 0; q < p; q++) {
                rest /= BASE;
            }
            return rest % BASE;
        }

        static int sizeOf(int cut) {
            int size = 0;
            int rest = cut;
            for (int p = 0; p < MOST_PROCESSES; p++) {
                size += rest % BASE;
                rest /= BASE;
            }
            return size;
        }

        static int combine(int a, int b, boolean meet) {
            int cut = 0;
            for (int p = 0; p < MOST_PROCESSES; p++) {
                int inA = shareOf(a, p);
                int inB = shareOf(b, p);
                cut += (meet ? Math.min(inA, inB) : Math.max(inA, inB)) * WEIGHTS[p];
            }
            return cut;
        }

        void refresh() {
            if (seenChanges == history.changes) {
                return;
            }
            seenChanges = history.changes;
            whole = 0;
            for (int p = 0; p < MOST_PROCESSES; p++) {
                whole += history.had[p] * WEIGHTS[p];
            }
            for (int cut = 0; cut < CUT_NUMBERS; cut++) {
                allowed[cut] = history.hasCut(cut) && isClosed(cut);
            }
            sortBySize();
        }

        // The clock of a row's last event in the cut tells of all that is ahead of the row's others.
        private boolean isClosed(int cut) {
            int rest = cut;
            for (int p = 0; p < MOST_PROCESSES; p++) {
                counts[p] = rest % BASE;
                rest /= BASE;
            }
            for (int p = 0; p < MOST_PROCESSES; p++) {
                for (int q = 0; q < MOST_PROCESSES; q++) {
                    if (counts[p] > 0 && history.clockOf(p, counts[p] - 1, q) > counts[q]) {
                        return false;
                    }
                }
            }
            return true;
        }

        /** While the cuts are put in, ends has the next free place of each size. */
        private void sortBySize() {
            Arrays.fill(ends, 0);
            for (int cut = 0; cut <= whole; cut++) {
                if (allowed[cut]) {
                    ends[sizeOf(cut)]++;
                }
            }
            total = 0;
            for (int size = 0; size <= MOST_OF_ALL; size++) {
                int ofSize = ends[size];
                ends[size] = total;
                total += ofSize;
            }
            for (int cut = 0; cut <= whole; cut++) {
                if (allowed[cut]) {
                    int size = sizeOf(cut);
                    inOrder[ends[size]] = cut;
                    ends[size]++;
                }
            }
        }

        int howManyOf(int size) {
            if (size < 0 || size > MOST_OF_ALL) {
                return 0;
            }
            return size == 0 ? ends[0] : ends[size] - ends[size - 1];
        }

        int firstBehind(int cut) {
            int size = sizeOf(cut);
            for (int k = size == 0 ? 0 : ends[size - 1]; k < total; k++) {
                if (inOrder[k] > cut || k >= ends[size]) {
                    return inOrder[k];
                }
            }
            return NONE;
        }

        /** The possible cut with one event of p more; NONE if there is none. */
        int up(int cut, int p) {
            if (shareOf(cut, p) >= history.had[p]) {
                return NONE;
            }
            int further = cut + WEIGHTS[p];
            return allowed[further] ? further : NONE;
        }

        /** The possible cut with one event of p less; NONE if there is none. */
        int down(int cut, int p) {
            if (shareOf(cut, p) == 0) {
                return NONE;
            }
            int nearer = cut - WEIGHTS[p];
            return allowed[nearer] ? nearer : NONE;
        }

        int firstOf(boolean[] marked) {
            for (int k = 0; k < total; k++) {
                if (marked[inOrder[k]]) {
                    return inOrder[k];
                }
            }
            return NONE;
        }

        int lastOf(boolean[] marked) {
            for (int k = total - 1; k >= 0; k--) {
                if (marked[inOrder[k]]) {
                    return inOrder[k];
                }
            }
            return NONE;
        }

        int howManyIn(boolean[] marked) {
            int found = 0;
            for (int k = 0; k < total; k++) {
                if (marked[inOrder[k]]) {
                    found++;
                }
            }
            return found;
        }
    }

    /** Parts in the order in which they came, so that each op stands behind its sides. */
    private static final class Formula {
        final int[] kinds = new int[MOST_PARTS];
        final int[] firsts = new int[MOST_PARTS];
        final int[] seconds = new int[MOST_PARTS];
        int parts;

        static int sidesOf(int kind) {
            return kind < NOT ? 2 : kind == NOT ? 1 : 0;
        }

        void append(int kind, int first, int second) {
            kinds[parts] = kind;
            firsts[parts] = first;
            seconds[parts] = second;
            parts++;
        }

        void appendAll(Formula other) {
            for (int k = 0; k < other.parts; k++) {
                append(other.kinds[k], other.firsts[k], other.seconds[k]);
            }
        }
    }

    /** The formulas that wait to be sides; each has its own parts, so that each is held to its own limit. */
    private static final class Pile {
        final Formula[] formulas = new Formula[MOST_TOPS];
        int tops;

        Pile() {
            for (int k = 0; k < MOST_TOPS; k++) {
                formulas[k] = new Formula();
            }
        }

        int push(int kind, int first, int second) {
            formulas[tops].parts = 0;
            formulas[tops].append(kind, first, second);
            tops++;
            return tops;
        }

        /** How many parts the formula would have that an op makes of its sides. */
        int partsBehind(int op) {
            int parts = 1;
            for (int side = 1; side <= Formula.sidesOf(op); side++) {
                parts += formulas[tops - side].parts;
            }
            return parts;
        }

        int unite(int op) {
            if (Formula.sidesOf(op) == 2) {
                tops--;
                formulas[tops - 1].appendAll(formulas[tops]);
            }
            formulas[tops - 1].append(op, 0, 0);
            return tops;
        }
    }

    /** The conditions that are no longer on the pile. */
    private static final class Conditions {
        final Formula[] formulas = new Formula[MOST_CONDITIONS];
        int total;

        Conditions() {
            for (int c = 0; c < MOST_CONDITIONS; c++) {
                formulas[c] = new Formula();
            }
        }

        boolean has(int c) {
            return c >= 0 && c < total;
        }

        int keep(Formula formula) {
            formulas[total].parts = 0;
            formulas[total].appendAll(formula);
            total++;
            return total - 1;
        }
    }

    /** One cut, looked at. */
    private static final class Moment {
        final History history;
        final int[] counts = new int[MOST_PROCESSES];
        final int[] pile = new int[MOST_TOPS];

        Moment(History history) {
            this.history = history;
        }

        int worth(Formula formula, int cut) {
            for (int p = 0; p < MOST_PROCESSES; p++) {
                counts[p] = Net.shareOf(cut, p);
            }
            int tops = 0;
            for (int k = 0; k < formula.parts; k++) {
                int kind = formula.kinds[k];
                tops += 1 - Formula.sidesOf(kind);
                int right = kind < NOT ? pile[tops] : 0;
                pile[tops - 1] = kind > NOT
                        ? seen(kind, formula.firsts[k], formula.seconds[k])
                        : reckoned(kind, pile[tops - 1], right);
            }
            return pile[0];
        }

        private int seen(int kind, int a, int b) {
            switch (kind) {
                case NAME:
                    return history.values[History.valuePlace(a, counts[a], b)];
                case UNDER_WAY:
                    return howManyUnderWay(a, b);
                case EVENTS:
                    return counts[a];
                default:
                    return a;
            }
        }

        private int howManyUnderWay(int a, int b) {
            Letters letters = history.letters;
            int found = 0;
            for (int l = 0; l < letters.total; l++) {
                boolean between = letters.from[l] == a && letters.to[l] == b;
                boolean sent = letters.sent[l] < counts[a];
                boolean taken = letters.taken[l] != NONE && letters.taken[l] < counts[b];
                if (between && sent && !taken) {
                    found++;
                }
            }
            return found;
        }

        private static int reckoned(int op, int left, int right) {
            switch (op) {
                case PLUS:
                    return left + right;
                case MINUS:
                    return left - right;
                case TIMES:
                    return left * right;
                case LESS:
                    return left < right ? 1 : 0;
                case ALIKE:
                    return left == right ? 1 : 0;
                case BOTH:
                    return left != 0 && right != 0 ? 1 : 0;
                case EITHER:
                    return left != 0 || right != 0 ? 1 : 0;
                default:
                    return left == 0 ? 1 : 0;
            }
        }
    }

    /** The possible cuts at which one condition holds. */
    private static final class Marks {
        final Moment moment;
        final boolean[] holds = new boolean[CUT_NUMBERS];
        private final int[] nearest = new int[CUT_NUMBERS];

        Marks(Moment moment) {
            this.moment = moment;
        }

        void wipe(Net net) {
            for (int k = 0; k < net.total; k++) {
                holds[net.inOrder[k]] = false;
            }
        }

        void set(Net net, Formula formula) {
            for (int k = 0; k < net.total; k++) {
                int cut = net.inOrder[k];
                holds[cut] = moment.worth(formula, cut) != 0;
            }
        }

        boolean areKept(Net net) {
            for (int k = 0; k < net.total; k++) {
                int cut = net.inOrder[k];
                for (int p = 0; p < MOST_PROCESSES && holds[cut]; p++) {
                    int further = net.up(cut, p);
                    if (further != NONE && !holds[further]) {
                        return false;
                    }
                }
            }
            return true;
        }

        // If each two marked cuts have their meet among them, so have any number of them; so it is enough
        // to look for a cut without a mark that is the meet of all marked ones above it, in one walk down.
        boolean areMet(Net net) {
            for (int k = net.total - 1; k >= 0; k--) {
                int cut = net.inOrder[k];
                nearest[cut] = holds[cut] ? cut : nearestBeyond(net, cut, true);
                if (nearest[cut] == cut && !holds[cut]) {
                    return false;
                }
            }
            return true;
        }

        boolean areJoined(Net net) {
            for (int k = 0; k < net.total; k++) {
                int cut = net.inOrder[k];
                nearest[cut] = holds[cut] ? cut : nearestBeyond(net, cut, false);
                if (nearest[cut] == cut && !holds[cut]) {
                    return false;
                }
            }
            return true;
        }

        /** The meet (join) of all marked cuts above (below) this one; NONE if there are none. */
        private int nearestBeyond(Net net, int cut, boolean meet) {
            int found = NONE;
            for (int p = 0; p < MOST_PROCESSES; p++) {
                int beyond = meet ? net.up(cut, p) : net.down(cut, p);
                int other = beyond == NONE ? NONE : nearest[beyond];
                if (other != NONE) {
                    found = found == NONE ? other : Net.combine(found, other, meet);
                }
            }
            return found;
        }
    }

    /** In how many ways one goes on from each possible cut to an end, past no barred cut. */
    private static final class Ways {
        private final long[] onward = new long[CUT_NUMBERS];

        /** To the end of the orders. */
        long fill(Net net, boolean[] barred) {
            for (int k = net.total - 1; k >= 0; k--) {
                int cut = net.inOrder[k];
                onward[cut] = barred[cut] ? 0 : cut == net.whole ? 1 : sumOver(net, cut);
            }
            return onward[0];
        }

        /** To the first cut at which the formula holds. */
        long fillUntil(Net net, boolean[] barred, Moment moment, Formula formula) {
            for (int k = net.total - 1; k >= 0; k--) {
                int cut = net.inOrder[k];
                boolean ends = !barred[cut] && moment.worth(formula, cut) != 0;
                onward[cut] = barred[cut] ? 0 : ends ? 1 : sumOver(net, cut);
            }
            return onward[0];
        }

        private long sumOver(Net net, int cut) {
            long sum = 0;
            for (int p = 0; p < MOST_PROCESSES; p++) {
                sum += over(net, cut, p);
            }
            return sum;
        }

        private long over(Net net, int cut, int p) {
            int further = net.up(cut, p);
            return further == NONE ? 0 : onward[further];
        }

        /** The process of event i of way n, of those last filled in; NONE if there is none. */
        int processAt(Net net, long n, int i) {
            long left = n;
            int cut = 0;
            int p = NONE;
            for (int k = 0; k <= i && k < MOST_OF_ALL; k++) {
                p = 0;
                while (p < MOST_PROCESSES && left >= over(net, cut, p)) {
                    left -= over(net, cut, p);
                    p++;
                }
                if (p == MOST_PROCESSES) {
                    return NONE;
                }
                cut += WEIGHTS[p];
            }
            return p;
        }
    }

    /** An order as it is told. */
    private static final class Row {
        final int[] told = new int[MOST_OF_ALL];
        int length;

        int append(int p) {
            told[length] = p;
            length++;
            return length;
        }

        /** How many of the first places go from possible cut to possible cut. */
        int rightPlaces(Net net) {
            int cut = 0;
            for (int k = 0; k < length; k++) {
                cut = net.up(cut, told[k]);
                if (cut == NONE) {
                    return k;
                }
            }
            return length;
        }

        /** Behind how many places of a row that is all right the formula holds first. */
        int firstAt(Moment moment, Formula formula) {
            int cut = 0;
            for (int k = 0; k < length; k++) {
                if (moment.worth(formula, cut) != 0) {
                    return k;
                }
                cut += WEIGHTS[told[k]];
            }
            return moment.worth(formula, cut) != 0 ? length : NONE;
        }
    }
}
