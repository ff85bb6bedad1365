import java.util.ArrayList;
import java.util.Arrays;
import java.util.Comparator;
import java.util.List;

/**
 * The document's words, told again in the dearest way: what is ahead of what by a search, cuts by
 * trying all, orders by writing them all down. Only for runs with few orders.
 */
final class PlainModel {
    private static final int NONE = -1, BAD = -2, STATE = -3, FULL = -4;

    private record Event(int p, int i, int kind, int about, int v, int waitedFor) { }

    private static final class Letter {
        int from, to, sent, taken = NONE;
    }

    private record Part(int kind, int a, int b) { }

    private int processes;
    private final List<Event> events = new ArrayList<>();
    private final List<Letter> letters = new ArrayList<>();
    private final List<List<Part>> conditions = new ArrayList<>();
    private final List<List<Part>> pile = new ArrayList<>();
    private final List<Integer> row = new ArrayList<>();
    private int status;

    // Kept from one call to the next until the events change.
    private List<int[]> cutsKept;
    private List<int[]> ordersKept;

    private boolean isProcess(int p) {
        return p >= 0 && p < processes;
    }

    private List<Event> of(int p) {
        return events.stream().filter(e -> e.p == p).toList();
    }

    private boolean isEvent(int p, int i) {
        return isProcess(p) && i >= 0 && i < of(p).size();
    }

    private int add(int p, int kind, int about, int v, int waitedFor) {
        int i = of(p).size();
        if (i == 6) {
            return FULL;
        }
        events.add(new Event(p, i, kind, about, v, waitedFor));
        cutsKept = null;
        ordersKept = null;
        return i + 1;
    }

    int process() {
        return processes == 4 ? FULL : processes++;
    }

    int own(int p, int name, int v, int add) {
        if (!isProcess(p) || name < 0 || name > 2) return NONE;
        if (add < 0 || add > 1) return BAD;
        return add(p, add, name, v, 0);
    }

    int send(int p, int q) {
        if (!isProcess(p) || !isProcess(q)) return NONE;
        if (p == q) return BAD;
        if (add(p, 2, letters.size(), 0, 0) == FULL) return FULL;
        Letter l = new Letter();
        l.from = p;
        l.to = q;
        l.sent = of(p).size() - 1;
        letters.add(l);
        return letters.size() - 1;
    }

    int take(int letter) {
        if (letter < 0 || letter >= letters.size()) return NONE;
        Letter l = letters.get(letter);
        if (l.taken != NONE) return STATE;
        int had = add(l.to, 3, letter, 0, 0);
        if (had != FULL) l.taken = had - 1;
        return had;
    }

    int waits(int p, int q) {
        if (!isProcess(p) || !isProcess(q)) return NONE;
        if (p == q) return BAD;
        return add(p, 4, q, 0, of(q).size());
    }

    int undo() {
        if (events.isEmpty()) return STATE;
        Event e = events.remove(events.size() - 1);
        if (e.kind == 2) letters.remove(e.about);
        if (e.kind == 3) letters.get(e.about).taken = NONE;
        cutsKept = null;
        ordersKept = null;
        return e.p;
    }

    int event(int p, int i, int what) {
        if (!isEvent(p, i) || what < 0 || what > 2) return NONE;
        Event e = of(p).get(i);
        return what == 0 ? e.kind : what == 1 ? e.about : events.indexOf(e);
    }

    int letter(int l, int what) {
        if (l < 0 || l >= letters.size() || what < 0 || what > 3) return NONE;
        Letter t = letters.get(l);
        return new int[] {t.from, t.to, t.sent, t.taken}[what];
    }

    /** Whether a is told to be ahead of b, without a third between them. */
    private boolean straightAhead(Event a, Event b) {
        if (a.p == b.p) return a.i < b.i;
        if (b.kind == 3 && a.kind == 2) return a.about == b.about;
        return b.kind == 4 && b.about == a.p && a.i < b.waitedFor;
    }

    private boolean isAhead(Event a, Event b) {
        if (straightAhead(a, b)) return true;
        for (Event m : events) {
            if (straightAhead(m, b) && isAhead(a, m)) return true;
        }
        return false;
    }

    int ahead(int p, int i, int q, int j) {
        if (!isEvent(p, i) || !isEvent(q, j)) return NONE;
        Event a = of(p).get(i), b = of(q).get(j);
        return a == b ? 0 : isAhead(a, b) ? 1 : isAhead(b, a) ? 2 : 3;
    }

    int clock(int p, int i, int q) {
        if (!isEvent(p, i) || !isProcess(q)) return NONE;
        Event e = of(p).get(i);
        return (int) of(q).stream().filter(a -> a == e || isAhead(a, e)).count();
    }

    private static int numberOf(int[] cut) {
        return cut[0] + 7 * cut[1] + 49 * cut[2] + 343 * cut[3];
    }

    private static int size(int[] cut) {
        return Arrays.stream(cut).sum();
    }

    private static boolean in(Event e, int[] cut) {
        return e.i < cut[e.p];
    }

    private boolean isPossible(int[] cut) {
        for (Event b : events) {
            for (Event a : events) {
                if (in(b, cut) && !in(a, cut) && straightAhead(a, b)) return false;
            }
        }
        return true;
    }

    /** null if there is no such cut. */
    private int[] cut(int number) {
        for (int[] c : allCuts()) {
            if (numberOf(c) == number) return c;
        }
        return null;
    }

    private List<int[]> allCuts() {
        if (cutsKept == null) {
            cutsKept = new ArrayList<>();
            for (int a = 0; a <= of(0).size(); a++)
                for (int b = 0; b <= of(1).size(); b++)
                    for (int c = 0; c <= of(2).size(); c++)
                        for (int d = 0; d <= of(3).size(); d++)
                            cutsKept.add(new int[] {a, b, c, d});
            cutsKept.sort(Comparator.comparingInt(PlainModel::size).thenComparingInt(PlainModel::numberOf));
        }
        return cutsKept;
    }

    private List<int[]> possibleCuts() {
        return allCuts().stream().filter(this::isPossible).toList();
    }

    int possible(int number) {
        int[] c = cut(number);
        return c == null ? NONE : isPossible(c) ? 1 : 0;
    }

    int cuts(int size) {
        if (size < -1) return BAD;
        return (int) possibleCuts().stream().filter(c -> size == -1 || size(c) == size).count();
    }

    int next(int number) {
        if (number == -1) return numberOf(possibleCuts().get(0));
        if (cut(number) == null) return NONE;
        boolean behind = false;
        for (int[] c : allCuts()) {
            if (behind && isPossible(c)) return numberOf(c);
            behind |= numberOf(c) == number;
        }
        return NONE;
    }

    private static int[] joined(int[] a, int[] b, boolean meet) {
        int[] c = new int[4];
        for (int p = 0; p < 4; p++) {
            c[p] = meet ? Math.min(a[p], b[p]) : Math.max(a[p], b[p]);
        }
        return c;
    }

    int join(int a, int b, int meet) {
        if (cut(a) == null || cut(b) == null) return NONE;
        if (meet < 0 || meet > 1) return BAD;
        return numberOf(joined(cut(a), cut(b), meet == 1));
    }

    int least(int p, int i) {
        if (!isProcess(p) || i < 0 || i > of(p).size()) return NONE;
        int[] meet = null;
        for (int[] c : possibleCuts()) {
            if (c[p] >= i) meet = meet == null ? c : joined(meet, c, true);
        }
        return numberOf(meet);
    }

    private List<int[]> allOrders() {
        if (ordersKept == null) {
            ordersKept = new ArrayList<>();
            write(new int[events.size()], 0, new int[4]);
        }
        return ordersKept;
    }

    private void write(int[] order, int at, int[] cut) {
        if (at == order.length) {
            ordersKept.add(order.clone());
            return;
        }
        for (int p = 0; p < 4; p++) {
            if (!hasStep(cut, p)) continue;
            order[at] = p;
            cut[p]++;
            write(order, at + 1, cut);
            cut[p]--;
        }
    }

    /** Whether the next event of p has all in the cut that are ahead of it. */
    private boolean hasStep(int[] cut, int p) {
        if (!isEvent(p, cut[p])) return false;
        Event e = of(p).get(cut[p]);
        return events.stream().allMatch(a -> in(a, cut) || !straightAhead(a, e));
    }

    long orders() {
        return allOrders().size();
    }

    int order(long n, int i) {
        if (n < 0 || n >= orders() || i < 0 || i >= events.size()) return NONE;
        return allOrders().get((int) n)[i];
    }

    private int leaf(Part part) {
        if (pile.size() == 6) return FULL;
        pile.add(new ArrayList<>(List.of(part)));
        return pile.size();
    }

    int number(int v) {
        return leaf(new Part(20, v, 0));
    }

    int part(int what, int a, int b) {
        if (what < 0 || what > 2 || a < 0 || a > 3 || b < 0 || b > 3 || what == 0 && b == 3) return NONE;
        if (what == 1 && a == b || what == 2 && b != 0) return BAD;
        return leaf(new Part(10 + what, a, b));
    }

    int op(int op) {
        if (op < 0 || op > 7) return NONE;
        if (pile.size() < (op == 7 ? 1 : 2)) return STATE;
        int sides = pile.get(pile.size() - 1).size() + (op == 7 ? 0 : pile.get(pile.size() - 2).size());
        if (sides + 1 > 15) return FULL;
        List<Part> right = op == 7 ? List.of() : pile.remove(pile.size() - 1);
        List<Part> side = pile.get(pile.size() - 1);
        side.addAll(right);
        side.add(new Part(op, 0, 0));
        return pile.size();
    }

    int condition() {
        if (pile.size() != 1) return STATE;
        if (conditions.size() == 8) return FULL;
        conditions.add(pile.remove(0));
        return conditions.size() - 1;
    }

    int clear(int all) {
        if (all < 0 || all > 1) return BAD;
        int went = pile.size() + (all == 1 ? conditions.size() : 0);
        pile.clear();
        if (all == 1) conditions.clear();
        return went;
    }

    private boolean isCondition(int c) {
        return c >= 0 && c < conditions.size();
    }

    /** The parts from behind on: an op takes its right side first. */
    private int reckon(List<Part> parts, int[] end, int[] cut) {
        Part part = parts.get(--end[0]);
        if (part.kind >= 10) return look(part, cut);
        int right = reckon(parts, end, cut);
        if (part.kind == 7) return right == 0 ? 1 : 0;
        int left = reckon(parts, end, cut);
        return switch (part.kind) {
            case 0 -> left + right;
            case 1 -> left - right;
            case 2 -> left * right;
            case 3 -> left < right ? 1 : 0;
            case 4 -> left == right ? 1 : 0;
            case 5 -> left != 0 && right != 0 ? 1 : 0;
            default -> left != 0 || right != 0 ? 1 : 0;
        };
    }

    private int look(Part part, int[] cut) {
        if (part.kind == 20) return part.a;
        if (part.kind == 12) return cut[part.a];
        if (part.kind == 11) {
            int found = 0;
            for (Letter l : letters) {
                boolean taken = l.taken != NONE && l.taken < cut[part.b];
                if (l.from == part.a && l.to == part.b && l.sent < cut[part.a] && !taken) found++;
            }
            return found;
        }
        int v = 0;
        for (Event e : of(part.a)) {
            if (in(e, cut) && e.kind < 2 && e.about == part.b) v = e.kind == 1 ? v + e.v : e.v;
        }
        return v;
    }

    private boolean holds(int c, int[] cut) {
        List<Part> parts = conditions.get(c);
        return reckon(parts, new int[] {parts.size()}, cut) != 0;
    }

    int value(int c, int number) {
        int[] cut = cut(number);
        status = isCondition(c) && cut != null ? 0 : NONE;
        return status == 0 ? reckon(conditions.get(c), new int[] {conditions.get(c).size()}, cut) : 0;
    }

    int status() {
        return status;
    }

    private List<int[]> held(int c) {
        return possibleCuts().stream().filter(cut -> holds(c, cut)).toList();
    }

    int may(int c) {
        return !isCondition(c) || held(c).isEmpty() ? NONE : numberOf(held(c).get(0));
    }

    int last(int c) {
        return !isCondition(c) || held(c).isEmpty() ? NONE : numberOf(held(c).get(held(c).size() - 1));
    }

    int many(int c) {
        return !isCondition(c) ? NONE : held(c).size();
    }

    /** The cuts that an order passes. */
    private static List<int[]> passed(int[] order) {
        List<int[]> passed = new ArrayList<>();
        int[] cut = new int[4];
        passed.add(cut.clone());
        for (int p : order) {
            cut[p]++;
            passed.add(cut.clone());
        }
        return passed;
    }

    private List<int[]> avoiding(int c) {
        return allOrders().stream().filter(o -> passed(o).stream().noneMatch(cut -> holds(c, cut))).toList();
    }

    int sure(int c) {
        return !isCondition(c) ? NONE : avoiding(c).isEmpty() ? 1 : 0;
    }

    int avoid(int c, int i) {
        if (!isCondition(c) || i < 0 || i >= events.size() || avoiding(c).isEmpty()) return NONE;
        return avoiding(c).get(0)[i];
    }

    long avoids(int c) {
        return !isCondition(c) ? NONE : avoiding(c).size();
    }

    int is(int c, int what) {
        if (!isCondition(c) || what < 0 || what > 2) return NONE;
        return (what == 0 ? isKept(c) : isClosed(c, what == 1)) ? 1 : 0;
    }

    private boolean isKept(int c) {
        for (int[] a : held(c)) {
            for (int[] b : possibleCuts()) {
                if (size(b) == size(a) + 1 && Arrays.equals(joined(a, b, true), a) && !holds(c, b)) return false;
            }
        }
        return true;
    }

    private boolean isClosed(int c, boolean meet) {
        for (int[] a : held(c)) {
            for (int[] b : held(c)) {
                if (!holds(c, joined(a, b, meet))) return false;
            }
        }
        return true;
    }

    int before(int c, int d) {
        if (!isCondition(c) || !isCondition(d)) return NONE;
        for (int[] order : allOrders()) {
            boolean had = false;
            for (int[] cut : passed(order)) {
                had |= holds(c, cut);
                if (holds(d, cut) && !had) return 0;
            }
        }
        return 1;
    }

    int say(int p) {
        if (p < 0 || p > 3) return BAD;
        if (row.size() == 24) return FULL;
        row.add(p);
        return row.size();
    }

    private int firstWrong() {
        int[] cut = new int[4];
        for (int k = 0; k < row.size(); k++) {
            if (!hasStep(cut, row.get(k))) return k;
            cut[row.get(k)]++;
        }
        return row.size();
    }

    int check() {
        int wrong = firstWrong();
        int told = row.size();
        row.clear();
        return wrong == told && told == events.size() ? 100 : wrong;
    }

    int passes(int c) {
        if (!isCondition(c)) return NONE;
        if (firstWrong() < row.size()) return STATE;
        List<int[]> passed = passed(row.stream().mapToInt(p -> p).toArray());
        for (int k = 0; k < passed.size(); k++) {
            if (holds(c, passed.get(k))) return k;
        }
        return NONE;
    }

    int count(int what) {
        return switch (what) {
            case 0 -> processes;
            case 1 -> events.size();
            case 2 -> letters.size();
            case 3 -> (int) letters.stream().filter(l -> l.taken == NONE).count();
            case 4 -> conditions.size();
            case 5 -> pile.size();
            case 6 -> row.size();
            default -> NONE;
        };
    }
}
