/** Promises 12 to 18 at their edges: cuts and orders. */
final class BoundsOfCuts {
    private static final int NONE = PerhapsWas.NONE, BAD = PerhapsWas.BAD;
    private static final int LOW = Bounds.LOW, HIGH = Bounds.HIGH;
    private static final long HUGE = 1_000_000_000_000_000_000L;
    private static final long MOST_ORDERS = 2308743493056L;

    private BoundsOfCuts() {
    }

    static void all(Bounds b) {
        p12Possible(b);
        p12None(b);
        p13Cuts(b);
        p13Bad(b);
        p14Next(b);
        p14First(b);
        p14NoneBehind(b);
        p14NoCut(b);
        p15Join(b);
        p15None(b);
        p15Bad(b);
        p16Least(b);
        p16None(b);
        p17Orders(b);
        p17Most(b);
        p18Order(b);
        p18ByTheLeast(b);
        p18None(b);
    }

    /** 0: own, send, own; 1: own, take: the cuts 14 and 15 are not possible. */
    private static PerhapsWas letterRun() {
        PerhapsWas x = Made.rows(1, 1);
        x.send(0, 1);
        x.take(0);
        x.own(0, 0, 2, 0);
        return x;
    }

    /** Numbers that are no cuts of letterRun(). */
    private static int[] noCuts() {
        return new int[] {-2, -7, LOW, LOW + 1, 4, 5, 6, 11, 13, 18, 20, 21, 42, 49, 56, 343, 2400, 2401, 4802, 65536, HIGH};
    }

    private static void p12Possible(Bounds b) {
        b.sentence(12, "Whether a CUT is POSSIBLE: 1, 0.");
        PerhapsWas x = letterRun();
        int[] cuts = {0, 1, 2, 3, 7, 8, 9, 10, 14, 15, 16, 17};
        for (int cut : cuts) {
            b.is("possible(" + cut + ")", x.possible(cut), cut == 14 || cut == 15 ? 0 : 1);
        }
        b.is("of no processes", new PerhapsWas().possible(0), 1);
        b.is("all that there can be", Made.full().possible(2400), 1);
        PerhapsWas y = Made.rows(6, 5);
        y.wait(1, 0);
        b.is("all but one ahead of the last", y.possible(5 + 42), 0);
        b.is("all", y.possible(6 + 42), 1);
        y.undo();
        y.own(1, 0, 1, 0);
        b.is("no longer ahead behind undo()", y.possible(42), 1);
    }

    private static void p12None(Bounds b) {
        b.sentence(12, "NONE.");
        for (int cut : noCuts()) {
            b.refused(NONE, "possible(" + cut + ")", BoundsOfCuts::letterRun, x -> x.possible(cut));
        }
        b.refused(NONE, "possible(-1)", BoundsOfCuts::letterRun, x -> x.possible(-1));
        b.refused(NONE, "possible(2401) of all", Made::full, x -> x.possible(2401));
        b.refused(NONE, "possible(1) without processes", PerhapsWas::new, x -> x.possible(1));
        b.refused(NONE, "possible(1) without events", () -> Made.with(4), x -> x.possible(1));
        PerhapsWas x = letterRun();
        x.undo();
        b.is("an event that was taken back", x.possible(3), NONE);
    }

    private static void p13Cuts(Bounds b) {
        b.sentence(13, "How many CUTS are POSSIBLE, of a SIZE (-1: of all).");
        PerhapsWas x = letterRun();
        int[] sizes = {1, 2, 2, 2, 2, 1};
        for (int size = 0; size < 6; size++) {
            b.is("cuts(" + size + ")", x.cuts(size), sizes[size]);
        }
        int[] none = {6, 7, 23, 24, 25, 26, 256, 65536, HIGH - 1, HIGH};
        for (int size : none) {
            b.is("cuts(" + size + ")", x.cuts(size), 0);
            b.is("cuts(" + size + ") of no events", new PerhapsWas().cuts(size), 0);
        }
        b.is("of all", x.cuts(-1), 10);
        b.is("of no events", new PerhapsWas().cuts(0), 1);
        b.is("of all, of no events", Made.with(4).cuts(-1), 1);
        PerhapsWas full = Made.full();
        b.is("of all, the most", full.cuts(-1), 2401);
        b.is("of the greatest size", full.cuts(24), 1);
        b.is("of a size above it", full.cuts(25), 0);
        full.undo();
        b.is("behind undo()", full.cuts(-1), 2058);
        b.is("of the greatest size behind undo()", full.cuts(24), 0);
    }

    private static void p13Bad(Bounds b) {
        b.sentence(13, "BAD: size below -1.");
        int[] bad = {-2, -3, -24, -256, LOW, LOW + 1};
        for (int size : bad) {
            b.refused(BAD, "cuts(" + size + ")", Made::mixed, x -> x.cuts(size));
            b.refused(BAD, "cuts(" + size + ") of a new object", PerhapsWas::new, x -> x.cuts(size));
        }
    }

    private static void p14Next(Bounds b) {
        b.sentence(14, "The next POSSIBLE CUT behind this one, in order (-1: the first of all): its number.");
        PerhapsWas x = letterRun();
        int[] inOrder = {0, 1, 7, 2, 8, 3, 9, 10, 16, 17};
        for (int k = 0; k + 1 < inOrder.length; k++) {
            b.is("next(" + inOrder[k] + ")", x.next(inOrder[k]), inOrder[k + 1]);
        }
        b.is("behind one that is not POSSIBLE, of its size none is left", x.next(14), 3);
        b.is("behind one that is not POSSIBLE", x.next(15), 10);
        PerhapsWas y = Made.with(2);
        y.send(1, 0);
        y.take(0);
        b.is("one of the same size behind one that is not POSSIBLE", y.next(1), 7);
        b.is("past one that is not POSSIBLE", y.next(0), 7);
    }

    private static void p14First(Bounds b) {
        b.sentence(14, "(-1: the first of all)");
        b.is("of no processes", new PerhapsWas().next(-1), 0);
        b.is("of no events", Made.with(4).next(-1), 0);
        b.is("of all events", Made.full().next(-1), 0);
    }

    private static void p14NoneBehind(Bounds b) {
        b.sentence(14, "NONE: there is none, too.");
        b.refused(NONE, "behind the last", BoundsOfCuts::letterRun, x -> x.next(17));
        b.refused(NONE, "behind the last of all", Made::full, x -> x.next(2400));
        b.refused(NONE, "behind the only one", PerhapsWas::new, x -> x.next(0));
        b.is("the last but one", Made.full().next(2399), 2400);
        b.is("the least of its size", Made.full().next(2400 - 343), 2351);
    }

    private static void p14NoCut(Bounds b) {
        b.sentence(14, "NONE: there is none, too.");
        for (int cut : noCuts()) {
            b.refused(NONE, "next(" + cut + ")", BoundsOfCuts::letterRun, x -> x.next(cut));
        }
        b.refused(NONE, "next(2401) of all", Made::full, x -> x.next(2401));
        b.refused(NONE, "next(1) of no events", () -> Made.with(4), x -> x.next(1));
    }

    private static void p15Join(Bounds b) {
        b.sentence(15, "The JOIN (meet 1: the MEET) of two CUTS.");
        PerhapsWas x = letterRun();
        b.is("JOIN of the first and the last", x.join(0, 17, 0), 17);
        b.is("MEET of the first and the last", x.join(0, 17, 1), 0);
        b.is("JOIN of one with itself", x.join(9, 9, 0), 9);
        b.is("MEET of one with itself", x.join(9, 9, 1), 9);
        b.is("JOIN of those that are not POSSIBLE", x.join(14, 15, 0), 15);
        b.is("MEET of those that are not POSSIBLE", x.join(14, 15, 1), 14);
        b.is("JOIN of two beside", x.join(3, 7, 0), 10);
        b.is("MEET of two beside", x.join(3, 7, 1), 0);
        b.is("JOIN without events", new PerhapsWas().join(0, 0, 0), 0);
        b.is("MEET of all", Made.full().join(2400, 2400, 1), 2400);
    }

    private static void p15None(Bounds b) {
        b.sentence(15, "NONE;");
        for (int cut : noCuts()) {
            b.refused(NONE, "join(" + cut + ", 0, 0)", BoundsOfCuts::letterRun, x -> x.join(cut, 0, 0));
            b.refused(NONE, "join(17, " + cut + ", 1)", BoundsOfCuts::letterRun, x -> x.join(17, cut, 1));
        }
        b.refused(NONE, "join(-1, 0, 0)", BoundsOfCuts::letterRun, x -> x.join(-1, 0, 0));
        b.refused(NONE, "join(0, -1, 0)", BoundsOfCuts::letterRun, x -> x.join(0, -1, 0));
    }

    private static void p15Bad(Bounds b) {
        b.sentence(15, "BAD: meet not 0, 1.");
        for (int meet : Bounds.outside(2)) {
            b.refused(BAD, "join(1, 7, " + meet + ")", BoundsOfCuts::letterRun, x -> x.join(1, 7, meet));
        }
    }

    private static void p16Least(Bounds b) {
        b.sentence(16, "The least POSSIBLE CUT with the first i EVENTS of p in it: its number.");
        PerhapsWas x = letterRun();
        int[][] least = {{0, 1, 2, 3}, {0, 7, 16}};
        for (int p = 0; p < 2; p++) {
            for (int i = 0; i < least[p].length; i++) {
                b.is("least(" + p + ", " + i + ")", x.least(p, i), least[p][i]);
            }
        }
        PerhapsWas full = Made.full();
        for (int p = 0; p < 4; p++) {
            b.is("none of " + p, full.least(p, 0), 0);
            b.is("all of " + p, full.least(p, 6), 6 * Made.WEIGHTS[p]);
        }
        PerhapsWas y = Made.rows(6, 6, 6, 5);
        y.wait(3, 2);
        b.is("all of two", y.least(3, 6), 6 * 343 + 6 * 49);
        b.is("all but the WAIT", y.least(3, 5), 5 * 343);
    }

    private static void p16None(Bounds b) {
        b.sentence(16, "NONE (i from 0 to as many as it has).");
        int[] had = {4, 2, 0};
        for (int p = 0; p < 3; p++) {
            int of = p;
            for (int i : Bounds.outside(had[p] + 1)) {
                b.refused(NONE, "least(" + p + ", " + i + ")", Made::mixed, x -> x.least(of, i));
            }
            b.holds("as many as it has", Made.mixed().least(p, had[p]) >= 0);
        }
        for (int p : Bounds.outside(3)) {
            b.refused(NONE, "least(" + p + ", 0)", Made::mixed, x -> x.least(p, 0));
        }
        b.refused(NONE, "least(0, 0) without processes", PerhapsWas::new, x -> x.least(0, 0));
        b.refused(NONE, "least(3, 7) of all", Made::full, x -> x.least(3, 7));
    }

    private static void p17Orders(Bounds b) {
        b.sentence(17, "How many ORDERS there are;");
        b.is("of no processes", new PerhapsWas().orders(), 1);
        b.is("of no events", Made.with(4).orders(), 1);
        b.is("of one event", Made.rows(0, 0, 1).orders(), 1);
        b.is("of one row", Made.rows(6).orders(), 1);
        b.is("of two events", Made.rows(1, 1).orders(), 2);
        b.is("of four events", Made.rows(1, 1, 1, 1).orders(), 24);
        b.is("of two rows", Made.rows(6, 6).orders(), 924);
        b.is("of three rows", Made.rows(6, 6, 6).orders(), 17153136);
        PerhapsWas x = Made.rows(6, 5);
        x.wait(1, 0);
        b.is("the last one waits for all of the other row", x.orders(), 462);
        x.undo();
        b.is("behind undo()", x.orders(), 462);
        int always = Made.constant(x, 1);
        b.is("none of them avoids what is always", x.avoids(always), 0);
        b.is("they are still as many", x.orders(), 462);
    }

    private static void p17Most(Bounds b) {
        b.sentence(17, "10^18: so many or more.");
        PerhapsWas x = Made.full();
        b.is("the most that there can be are fewer", x.orders(), MOST_ORDERS);
        x.undo();
        b.is("with one event less", x.orders(), MOST_ORDERS / 4);
    }

    private static void p18Order(Bounds b) {
        b.sentence(18, "The PROCESS of EVENT i of ORDER n, both from 0 on");
        PerhapsWas x = Made.full();
        for (int i = 0; i < 24; i++) {
            b.is("the first, event " + i, x.order(0, i), i / 6);
            b.is("the last, event " + i, x.order(MOST_ORDERS - 1, i), 3 - i / 6);
        }
        b.is("the last that begins with 0", x.order(MOST_ORDERS / 4 - 1, 0), 0);
        b.is("the first that begins with 1", x.order(MOST_ORDERS / 4, 0), 1);
        b.is("the last that begins with 2", x.order(MOST_ORDERS / 4 * 3 - 1, 0), 2);
        b.is("the first that begins with 3", x.order(MOST_ORDERS / 4 * 3, 0), 3);
        b.is("of one event", Made.rows(0, 0, 0, 1).order(0, 0), 3);
    }

    private static void p18ByTheLeast(Bounds b) {
        b.sentence(18, "(ORDERS by the least PROCESS at the first place where they differ).");
        PerhapsWas x = letterRun();
        String[] orders = {"00011", "00101", "00110", "01001", "01010", "10001", "10010"};
        for (int n = 0; n < orders.length; n++) {
            for (int i = 0; i < 5; i++) {
                b.is("order(" + n + ", " + i + ")", x.order(n, i), orders[n].charAt(i) - '0');
            }
        }
    }

    private static void p18None(Bounds b) {
        b.sentence(18, "NONE: none such, n is 10^18 or more.");
        long[] noOrders = {7, 8, 1L << 31, 1L << 32, (1L << 32) + 1, HUGE - 1, HUGE, HUGE + 1, Long.MAX_VALUE,
            -1, -2, -7, -(1L << 32), -HUGE, Long.MIN_VALUE, Long.MIN_VALUE + 1};
        for (long n : noOrders) {
            b.refused(NONE, "order(" + n + ", 0)", BoundsOfCuts::letterRun, x -> x.order(n, 0));
        }
        for (int i : Bounds.outside(5)) {
            b.refused(NONE, "order(0, " + i + ")", BoundsOfCuts::letterRun, x -> x.order(0, i));
            b.refused(NONE, "order(6, " + i + ")", BoundsOfCuts::letterRun, x -> x.order(6, i));
        }
        b.refused(NONE, "order(0, 0) of no events", () -> Made.with(4), x -> x.order(0, 0));
        b.refused(NONE, "the first above all", Made::full, x -> x.order(MOST_ORDERS, 0));
        b.refused(NONE, "event 24 of all", Made::full, x -> x.order(0, 24));
        b.refused(NONE, "10^18 of all", Made::full, x -> x.order(HUGE, 0));
    }
}
