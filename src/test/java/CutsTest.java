/** Promises 12 to 18: cuts and orders. */
public final class CutsTest {
    private static final int NONE = PerhapsWas.NONE, BAD = PerhapsWas.BAD;
    private static final int LOW = Integer.MIN_VALUE, HIGH = Integer.MAX_VALUE;
    private static final Due due = new Due("CutsTest");

    public static void main(String[] args) {
        possible();
        cuts();
        next();
        join();
        least();
        orders();
        order();
        largest();
        lateProcess();
        due.end();
    }

    /** 0: own, send, own; 1: own, take. */
    private static PerhapsWas letterRun() {
        PerhapsWas x = Made.with(2);
        x.own(0, 0, 1, 0);
        x.send(0, 1);
        x.own(1, 0, 1, 0);
        x.take(0);
        x.own(0, 0, 2, 0);
        return x;
    }

    private static void possible() {
        PerhapsWas x = letterRun();
        for (int in0 = 0; in0 <= 3; in0++) {
            for (int in1 = 0; in1 <= 2; in1++) {
                int cut = in0 + 7 * in1;
                due.is("possible(" + cut + ")", x.possible(cut), in1 == 2 && in0 < 2 ? 0 : 1);
            }
        }
        int[] none = {-1, -2, LOW, 4, 6, 7 + 4, 21, 49, 343, 2400, 2401, HIGH};
        for (int cut : none) {
            due.is("possible(" + cut + ")", x.possible(cut), NONE);
        }
    }

    private static void cuts() {
        PerhapsWas x = letterRun();
        int[] sizes = {1, 2, 2, 2, 2, 1, 0};
        for (int size = 0; size < sizes.length; size++) {
            due.is("cuts(" + size + ")", x.cuts(size), sizes[size]);
        }
        due.is("cuts(-1)", x.cuts(-1), 10);
        due.is("cuts(-2)", x.cuts(-2), BAD);
        due.is("cuts(LOW)", x.cuts(LOW), BAD);
        due.is("cuts(24)", x.cuts(24), 0);
        due.is("cuts(25)", x.cuts(25), 0);
        due.is("cuts(HIGH)", x.cuts(HIGH), 0);
    }

    private static void next() {
        PerhapsWas x = letterRun();
        int[] inOrder = {0, 1, 7, 2, 8, 3, 9, 10, 16, 17};
        int cut = -1;
        for (int want : inOrder) {
            int got = x.next(cut);
            due.is("next(" + cut + ")", got, want);
            cut = want;
        }
        due.is("next of the last", x.next(17), NONE);
        due.is("next of one that is not possible", x.next(14), 3);
        due.is("next of another one", x.next(15), 10);
        due.is("next(4), no cut", x.next(4), NONE);
        due.is("next(-2)", x.next(-2), NONE);
        due.is("next(2401)", x.next(2401), NONE);
        due.is("next, new object", new PerhapsWas().next(-1), 0);
        due.is("next behind the only one", new PerhapsWas().next(0), NONE);
    }

    private static void join() {
        PerhapsWas x = letterRun();
        due.is("join", x.join(3, 8, 0), 10);
        due.is("meet", x.join(3, 8, 1), 1);
        due.is("join of those that are not possible", x.join(14, 1, 0), 15);
        due.is("meet of one with itself", x.join(16, 16, 1), 16);
        due.is("join, no a", x.join(4, 0, 0), NONE);
        due.is("join, no b", x.join(0, 21, 0), NONE);
        due.is("join, NONE ahead of BAD", x.join(-1, 0, 2), NONE);
        due.is("join, meet 2", x.join(0, 0, 2), BAD);
        due.is("join, meet -1", x.join(0, 0, -1), BAD);
    }

    private static void least() {
        PerhapsWas x = letterRun();
        due.is("least(0, 0)", x.least(0, 0), 0);
        due.is("least(0, 3)", x.least(0, 3), 3);
        due.is("least(1, 1)", x.least(1, 1), 7);
        due.is("least(1, 2)", x.least(1, 2), 16);
        due.is("least(0, 4)", x.least(0, 4), NONE);
        due.is("least(0, -1)", x.least(0, -1), NONE);
        due.is("least(2, 0)", x.least(2, 0), NONE);
        due.is("least(-1, 0)", x.least(-1, 0), NONE);
        x.process();
        due.is("least of one without events", x.least(2, 0), 0);
        due.is("least(2, 1)", x.least(2, 1), NONE);
    }

    private static void orders() {
        PerhapsWas x = letterRun();
        due.is("orders()", x.orders(), 7);
        x.undo();
        due.is("orders() behind undo", x.orders(), 3);
        x.process();
        due.is("orders() behind process", x.orders(), 3);
        x.wait(2, 1);
        due.is("orders() behind wait", x.orders(), 3);
        due.is("orders(), new object", new PerhapsWas().orders(), 1);
    }

    private static void order() {
        PerhapsWas x = letterRun();
        String[] orders = {"00011", "00101", "00110", "01001", "01010", "10001", "10010"};
        for (int n = 0; n < orders.length; n++) {
            for (int i = 0; i < 5; i++) {
                due.is("order(" + n + ", " + i + ")", x.order(n, i), orders[n].charAt(i) - '0');
            }
        }
        due.is("order 7", x.order(7, 0), NONE);
        due.is("order -1", x.order(-1, 0), NONE);
        due.is("order 10^18", x.order(1_000_000_000_000_000_000L, 0), NONE);
        due.is("order 2^32", x.order(1L << 32, 0), NONE);
        due.is("order Long.MAX_VALUE", x.order(Long.MAX_VALUE, 0), NONE);
        due.is("order Long.MIN_VALUE", x.order(Long.MIN_VALUE, 0), NONE);
        due.is("order(0, 5)", x.order(0, 5), NONE);
        due.is("order(0, -1)", x.order(0, -1), NONE);
        due.is("order(0, HIGH)", x.order(0, HIGH), NONE);
    }

    private static void largest() {
        PerhapsWas x = Made.full();
        due.is("most cuts", x.cuts(-1), 2401);
        due.is("most cuts of size 12", x.cuts(12), 231);
        due.is("cuts of size 24", x.cuts(24), 1);
        due.is("cuts of size 25", x.cuts(25), 0);
        due.is("the last cut", x.next(2399), 2400);
        due.is("none behind it", x.next(2400), NONE);
        due.is("most orders", x.orders(), 2308743493056L);
        due.is("the first order begins", x.order(0, 0), 0);
        due.is("the last order begins", x.order(2308743493055L, 0), 3);
        due.is("the last order ends", x.order(2308743493055L, 23), 0);
        due.is("no order behind it", x.order(2308743493056L, 0), NONE);
        due.is("2401", x.possible(2401), NONE);
    }

    private static void lateProcess() {
        PerhapsWas x = letterRun();
        due.is("no events of 2 yet", x.possible(49), NONE);
        due.is("cuts", x.cuts(-1), 10);
        x.process();
        due.is("a process more has none", x.possible(49), NONE);
        x.own(2, 0, 1, 0);
        due.is("an event more", x.possible(49), 1);
        due.is("twice as many cuts", x.cuts(-1), 20);
    }
}
