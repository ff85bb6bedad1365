import java.util.Arrays;
import java.util.Random;

/**
 * Orders and conditions of runs of up to 24 events, drawn from fixed seeds. The plain model tells which cuts are
 * possible and where conditions hold; orders are too many to be written down and are counted from its answers.
 */
public final class LargeRunsTest {
    private static final int RUNS = 60;
    private static final int CONDITIONS = 4;
    private static final int CUTS = 2401;
    private static final int NONE = PerhapsWas.NONE;
    private static final Due due = new Due("LargeRunsTest");

    private final Random random;
    private final String run;
    private final PerhapsWas x = new PerhapsWas();
    private final PlainModel m = new PlainModel();
    private final boolean[] possible = new boolean[CUTS];
    private final boolean[][] holds = new boolean[CONDITIONS][CUTS];
    private int events;
    private int whole;

    private LargeRunsTest(int seed) {
        random = new Random(seed);
        run = "run " + seed + " ";
    }

    public static void main(String[] args) {
        for (int seed = 0; seed < RUNS && due.wrongSoFar() < 20; seed++) {
            new LargeRunsTest(seed).go(2 + seed % 3, seed % 5);
        }
        due.end();
    }

    private void go(int processes, int seldom) {
        for (int p = 0; p < processes; p++) {
            due.is(run + "process", x.process(), m.process());
        }
        addEvents(processes, processes * 6 - random.nextInt(4), seldom);
        for (int c = 0; c < CONDITIONS; c++) {
            buildCondition(processes);
        }
        lookAtCuts();
        askOrders();
        for (int c = 0; c < CONDITIONS; c++) {
            askWhere(c);
            askAvoid(c);
            askIs(c);
            for (int d = 0; d < CONDITIONS; d++) {
                due.is(run + "before " + c + " " + d, x.before(c, d), isBefore(c, d) ? 1 : 0);
            }
        }
        tellOrder();
    }

    /** Of seldom + 2 events one is no OWN or ADD: the fewer there are, the more orders. */
    private void addEvents(int processes, int wanted, int seldom) {
        for (int tries = 0; tries < 150 && m.count(1) < wanted; tries++) {
            int p = random.nextInt(processes), q = random.nextInt(processes), v = random.nextInt(3), add = random.nextInt(2);
            int kind = random.nextInt(seldom + 2) == 0 ? random.nextInt(3) : 3;
            int l = random.nextInt(m.count(2) + 1);
            switch (kind) {
                case 0 -> due.is(run + "send " + p + " " + q, x.send(p, q), m.send(p, q));
                case 1 -> due.is(run + "take " + l, x.take(l), m.take(l));
                case 2 -> due.is(run + "wait " + p + " " + q, x.wait(p, q), m.waits(p, q));
                default -> due.is(run + "own " + p + " " + v, x.own(p, v, v, add), m.own(p, v, v, add));
            }
        }
        events = m.count(1);
    }

    /** Two questions that are 0 at first, with an op; now and then turned around. */
    private void buildCondition(int processes) {
        askTwo(processes);
        askTwo(processes);
        int op = 5 + random.nextInt(2);
        due.is(run + "op", x.op(op), m.op(op));
        if (random.nextInt(6) == 0) {
            due.is(run + "op", x.op(7), m.op(7));
        }
        due.is(run + "condition", x.condition(), m.condition());
    }

    /** Whether a number is less than a part, or a sum, or like it; mostly the part is how many events there are. */
    private void askTwo(int processes) {
        int a = random.nextInt(processes), b = random.nextInt(3), what = Math.min(2, random.nextInt(5));
        int second = what == 2 ? 0 : what == 1 && a == b ? 3 : b;
        int op = 3 + random.nextInt(2), v = op == 3 ? random.nextInt(3) : 1 + random.nextInt(4);
        due.is(run + "number", x.number(v), m.number(v));
        due.is(run + "part", x.part(what, a, second), m.part(what, a, second));
        if (random.nextInt(3) == 0) {
            int other = random.nextInt(processes);
            due.is(run + "part", x.part(2, other, 0), m.part(2, other, 0));
            due.is(run + "op", x.op(0), m.op(0));
        }
        due.is(run + "op", x.op(op), m.op(op));
    }

    private void lookAtCuts() {
        int found = 0;
        for (int cut = 0; cut < CUTS; cut++) {
            int may = m.possible(cut);
            whole = may == NONE ? whole : cut;
            possible[cut] = may == 1;
            found += may == 1 ? 1 : 0;
            for (int c = 0; c < CONDITIONS && may == 1; c++) {
                holds[c][cut] = m.value(c, cut) != 0;
            }
        }
        due.is(run + "cuts -1", x.cuts(-1), found);
    }

    private static int share(int cut, int p) {
        return cut / Made.WEIGHTS[p] % 7;
    }

    /** The possible cut with one event of p more, or NONE. */
    private int up(int cut, int p) {
        int further = share(cut, p) == 6 ? NONE : cut + Made.WEIGHTS[p];
        return further != NONE && further < CUTS && possible[further] ? further : NONE;
    }

    /** From each possible cut, the rows of events that lead to the whole and pass no barred cut. */
    private long[] waysOn(boolean[] barred) {
        long[] ways = new long[CUTS];
        for (int cut = whole; cut >= 0; cut--) {
            if (!possible[cut] || barred[cut]) {
                continue;
            }
            ways[cut] = cut == whole ? 1 : 0;
            for (int p = 0; p < 4; p++) {
                ways[cut] += up(cut, p) == NONE ? 0 : ways[up(cut, p)];
            }
        }
        return ways;
    }

    private int[] orderOf(long[] ways, long n) {
        int[] order = new int[events];
        int cut = 0;
        long left = n;
        for (int i = 0; i < events; i++) {
            for (int p = 0; p < 4; p++) {
                long over = up(cut, p) == NONE ? 0 : ways[up(cut, p)];
                if (left < over) {
                    order[i] = p;
                    cut = up(cut, p);
                    break;
                }
                left -= over;
            }
        }
        return order;
    }

    private void askOrders() {
        long[] ways = waysOn(new boolean[CUTS]);
        due.is(run + "orders", x.orders(), ways[0]);
        for (long n : new long[] {0, ways[0] - 1, (random.nextLong() >>> 1) % ways[0]}) {
            int[] order = orderOf(ways, n);
            for (int i = 0; i < events; i++) {
                due.is(run + "order " + n + " " + i, x.order(n, i), order[i]);
            }
        }
        due.is(run + "order one too many", x.order(ways[0], 0), NONE);
        due.is(run + "order with an event too many", x.order(0, events), NONE);
    }

    private void askWhere(int c) {
        due.is(run + "may " + c, x.may(c), m.may(c));
        due.is(run + "last " + c, x.last(c), m.last(c));
        due.is(run + "many " + c, x.many(c), m.many(c));
    }

    private void askAvoid(int c) {
        long[] ways = waysOn(holds[c]);
        due.is(run + "avoids " + c, x.avoids(c), ways[0]);
        due.is(run + "sure " + c, x.sure(c), ways[0] == 0 ? 1 : 0);
        int[] order = ways[0] == 0 ? null : orderOf(ways, 0);
        for (int i = 0; i < events; i++) {
            due.is(run + "avoid " + c + " " + i, x.avoid(c, i), order == null ? NONE : order[i]);
        }
    }

    private void askIs(int c) {
        due.is(run + "is " + c + " 0", x.is(c, 0), isKept(c) ? 1 : 0);
        due.is(run + "is " + c + " 1", x.is(c, 1), isClosed(c, true) ? 1 : 0);
        due.is(run + "is " + c + " 2", x.is(c, 2), isClosed(c, false) ? 1 : 0);
    }

    private boolean isKept(int c) {
        for (int cut = 0; cut <= whole; cut++) {
            for (int p = 0; p < 4 && holds[c][cut]; p++) {
                if (up(cut, p) != NONE && !holds[c][up(cut, p)]) {
                    return false;
                }
            }
        }
        return true;
    }

    private boolean isClosed(int c, boolean meet) {
        for (int a = 0; a <= whole; a++) {
            for (int b = 0; b < a && holds[c][a]; b++) {
                if (holds[c][b] && !holds[c][joined(a, b, meet)]) {
                    return false;
                }
            }
        }
        return true;
    }

    private static int joined(int a, int b, boolean meet) {
        int cut = 0;
        for (int p = 0; p < 4; p++) {
            int inA = share(a, p), inB = share(b, p);
            cut += Made.WEIGHTS[p] * (meet ? Math.min(inA, inB) : Math.max(inA, inB));
        }
        return cut;
    }

    /** No cut with d is come to by cuts that are all without c, itself too. */
    private boolean isBefore(int c, int d) {
        boolean[] come = new boolean[CUTS];
        come[0] = true;
        for (int cut = 0; cut <= whole; cut++) {
            if (!come[cut] || holds[c][cut]) {
                continue;
            }
            if (holds[d][cut]) {
                return false;
            }
            for (int p = 0; p < 4; p++) {
                if (up(cut, p) != NONE) {
                    come[up(cut, p)] = true;
                }
            }
        }
        return true;
    }

    private void tellOrder() {
        long[] ways = waysOn(new boolean[CUTS]);
        int[] order = orderOf(ways, (random.nextLong() >>> 1) % ways[0]);
        int[] first = new int[CONDITIONS];
        Arrays.fill(first, NONE);
        int cut = 0;
        for (int i = 0; i <= events; i++) {
            for (int c = 0; c < CONDITIONS; c++) {
                first[c] = first[c] == NONE && holds[c][cut] ? i : first[c];
            }
            if (i < events) {
                due.is(run + "say " + order[i], x.say(order[i]), i + 1);
                cut += Made.WEIGHTS[order[i]];
            }
        }
        for (int c = 0; c < CONDITIONS; c++) {
            due.is(run + "passes " + c, x.passes(c), first[c]);
        }
        due.is(run + "check", x.check(), 100);
    }
}
