import java.util.Random;

/** All promises: runs of calls, drawn from fixed seeds, held against the plain model. */
public final class RandomRunsTest {
    private static final int RUNS = 400;
    private static final int CALLS = 512;
    private static final int[] ODD = {-1, -2, 4, 5, 7, 8, 49, 343, 2400, 2401, Integer.MIN_VALUE, Integer.MAX_VALUE};
    private static final Due due = new Due("RandomRunsTest");

    private final Random random;
    private final PerhapsWas x = new PerhapsWas();
    private final PlainModel m = new PlainModel();
    private final int mostEvents;
    private String run;

    private RandomRunsTest(int seed) {
        random = new Random(seed);
        mostEvents = seed % 8 == 0 ? 9 + random.nextInt(8) : 2 + random.nextInt(7);
        run = "run " + seed;
    }

    public static void main(String[] args) {
        for (int seed = 0; seed < RUNS && due.wrongSoFar() < 20; seed++) {
            new RandomRunsTest(seed).go();
        }
        due.end();
    }

    private void go() {
        int processes = 1 + random.nextInt(4);
        for (int p = 0; p < processes; p++) {
            due.is(run + " process", x.process(), m.process());
        }
        String name = run;
        for (int k = processes; k < CALLS && due.wrongSoFar() < 20; k++) {
            run = name + " call " + k;
            int kind = random.nextInt(100);
            if (kind < 15) {
                change();
            } else if (kind < 30) {
                askEvents();
            } else if (kind < 45) {
                askCuts();
            } else if (kind < 68) {
                build();
            } else if (kind < 90) {
                askConditions();
            } else {
                tell();
            }
        }
    }

    /** Whether the plain model can write all orders down. */
    private boolean hasFewOrders() {
        return m.count(1) <= 8;
    }

    /** Mostly from 0 to below n, now and then something odd. */
    private int some(int n) {
        return random.nextInt(25) == 0 ? ODD[random.nextInt(ODD.length)] : random.nextInt(n);
    }

    private int someCut() {
        int cut = 0;
        for (int p = 0, w = 1; p < 4; p++, w *= 7) {
            int had = 0;
            while (m.event(p, had, 0) != -1) {
                had++;
            }
            cut += w * random.nextInt(had + 1);
        }
        return random.nextInt(15) == 0 ? some(2401) : cut;
    }

    private void change() {
        int kind = random.nextInt(12);
        if (kind == 0 && random.nextInt(4) == 0) {
            due.is(run + " process", x.process(), m.process());
        } else if (kind < 3) {
            due.is(run + " undo", x.undo(), m.undo());
        } else if (m.count(1) < mostEvents) {
            addEvent(kind);
        }
    }

    private void addEvent(int kind) {
        int p = some(4), q = some(4);
        if (kind < 5) {
            int name = some(3), v = random.nextInt(5) - 2, add = some(2);
            due.is(run + " own " + p + " " + name + " " + v + " " + add, x.own(p, name, v, add), m.own(p, name, v, add));
        } else if (kind < 8) {
            due.is(run + " send " + p + " " + q, x.send(p, q), m.send(p, q));
        } else if (kind < 11) {
            int l = some(Math.max(1, m.count(2)));
            due.is(run + " take " + l, x.take(l), m.take(l));
        } else {
            due.is(run + " wait " + p + " " + q, x.wait(p, q), m.waits(p, q));
        }
    }

    private void askEvents() {
        int p = some(4), i = some(4), q = some(4), j = some(4), what = some(4);
        switch (random.nextInt(5)) {
            case 0 -> due.is(run + " event", x.event(p, i, what), m.event(p, i, what));
            case 1 -> due.is(run + " letter", x.letter(i, what), m.letter(i, what));
            case 2 -> due.is(run + " ahead", x.ahead(p, i, q, j), m.ahead(p, i, q, j));
            case 3 -> due.is(run + " clock", x.clock(p, i, q), m.clock(p, i, q));
            default -> due.is(run + " count", x.count(what), m.count(what));
        }
    }

    private void askCuts() {
        int a = someCut(), b = someCut(), i = some(5);
        switch (random.nextInt(hasFewOrders() ? 7 : 5)) {
            case 0 -> due.is(run + " possible " + a, x.possible(a), m.possible(a));
            case 1 -> due.is(run + " cuts " + (i - 1), x.cuts(i - 1), m.cuts(i - 1));
            case 2 -> due.is(run + " next " + a, x.next(a), m.next(a));
            case 3 -> due.is(run + " join " + a + " " + b, x.join(a, b, i % 3), m.join(a, b, i % 3));
            case 4 -> askLeast(some(4), i);
            case 5 -> due.is(run + " orders", x.orders(), m.orders());
            default -> askOrder();
        }
    }

    private void askLeast(int p, int i) {
        due.is(run + " least " + p + " " + i, x.least(p, i), m.least(p, i));
    }

    private void askOrder() {
        long n = some((int) m.orders() + 1);
        int i = some(m.count(1) + 1);
        due.is(run + " order " + n + " " + i, x.order(n, i), m.order(n, i));
    }

    private void build() {
        int kind = random.nextInt(40);
        int a = some(4), b = some(4), what = some(3), v = random.nextInt(5) - 1;
        if (kind < 8) {
            due.is(run + " number " + v, x.number(v), m.number(v));
        } else if (kind < 18) {
            due.is(run + " part " + what + " " + a + " " + b, x.part(what, a, b), m.part(what, a, b));
        } else if (kind < 31) {
            int op = some(8);
            due.is(run + " op " + op, x.op(op), m.op(op));
        } else if (kind < 39) {
            due.is(run + " condition", x.condition(), m.condition());
        } else {
            int all = some(2);
            due.is(run + " clear " + all, x.clear(all), m.clear(all));
        }
    }

    private void askConditions() {
        int c = some(Math.max(1, m.count(4))), d = some(Math.max(1, m.count(4)));
        int cut = someCut(), i = some(m.count(1) + 1), what = some(3);
        switch (random.nextInt(hasFewOrders() ? 11 : 7)) {
            case 0, 1 -> {
                due.is(run + " value " + c + " " + cut, x.value(c, cut), m.value(c, cut));
                due.is(run + " status", x.status(), m.status());
            }
            case 2 -> due.is(run + " may " + c, x.may(c), m.may(c));
            case 3 -> due.is(run + " last " + c, x.last(c), m.last(c));
            case 4 -> due.is(run + " many " + c, x.many(c), m.many(c));
            case 5, 6 -> due.is(run + " is " + c + " " + what, x.is(c, what), m.is(c, what));
            case 7 -> due.is(run + " sure " + c, x.sure(c), m.sure(c));
            case 8 -> due.is(run + " avoid " + c + " " + i, x.avoid(c, i), m.avoid(c, i));
            case 9 -> due.is(run + " avoids " + c, x.avoids(c), m.avoids(c));
            default -> due.is(run + " before " + c + " " + d, x.before(c, d), m.before(c, d));
        }
    }

    private void tell() {
        int kind = random.nextInt(10);
        if (kind < 5) {
            sayOne();
        } else if (kind < 7) {
            int c = some(Math.max(1, m.count(4)));
            due.is(run + " passes " + c, x.passes(c), m.passes(c));
        } else if (kind < 8) {
            due.is(run + " check", x.check(), m.check());
        } else if (hasFewOrders()) {
            tellOrder();
        }
    }

    private void sayOne() {
        int p = some(4);
        due.is(run + " say " + p, x.say(p), m.say(p));
    }

    /** A row that is an order, or nearly one. */
    private void tellOrder() {
        due.is(run + " check", x.check(), m.check());
        long n = random.nextInt((int) m.orders());
        int told = m.count(1) - (random.nextInt(3) == 0 ? 1 : 0);
        for (int i = 0; i < told; i++) {
            int p = random.nextInt(20) == 0 ? some(4) : m.order(n, i);
            due.is(run + " say " + p, x.say(p), m.say(p));
        }
        int c = some(Math.max(1, m.count(4)));
        due.is(run + " passes " + c, x.passes(c), m.passes(c));
    }
}
