/** The terms at their edges: 2 CONDITIONS. */
final class BoundsOfConditionTerms {
    private static final int NONE = PerhapsWas.NONE, STATE = PerhapsWas.STATE, FULL = PerhapsWas.FULL;
    private static final int LOW = Bounds.LOW, HIGH = Bounds.HIGH;

    private BoundsOfConditionTerms() {
    }

    static void all(Bounds b) {
        mostConditions(b);
        mostParts(b);
        sides(b);
        number(b);
        name(b);
        underWay(b);
        events(b);
        reckoningOps(b);
        opsOfTwo(b);
        opOfOne(b);
        holds(b);
        noProcessYet(b);
        may(b);
        sure(b);
        kept(b);
        metAndJoined(b);
    }

    private static void mostConditions(Bounds b) {
        b.sentence(0, "2 CONDITIONS are numbered from 0 on, 8 at most,");
        PerhapsWas x = new PerhapsWas();
        for (int c = 0; c < 8; c++) {
            b.is("condition " + c + ", not yet", x.many(c), NONE);
            b.is("condition " + c, Made.constant(x, 10 + c), c);
            b.is("condition " + c + " is there", x.many(c), 1);
        }
        b.is("a ninth", Made.constant(x, 18), FULL);
        b.is("condition 8", x.many(8), NONE);
        for (int c = 0; c < 8; c++) {
            b.is("value of " + c, x.value(c, 0), 10 + c);
        }
    }

    private static void mostParts(Bounds b) {
        b.sentence(0, "each of at most 15 PARTS;");
        for (int c = 0; c < 8; c++) {
            PerhapsWas x = new PerhapsWas();
            for (int k = 0; k < c; k++) {
                Made.top(x, 15);
                x.condition();
            }
            Made.top(x, 14);
            b.is("a fifteenth", x.op(7), 1);
            b.is("a sixteenth", x.op(7), FULL);
            b.is("condition " + c + " of 15", x.condition(), c);
        }
    }

    private static void sides(Bounds b) {
        b.sentence(0, "they are put together on a pile, what comes takes its sides from there, the uppermost is the right one.");
        PerhapsWas x = new PerhapsWas();
        int[] numbers = {1, 20, 300, 4000, 50000, 600000};
        for (int v : numbers) {
            x.number(v);
        }
        for (int tops = 5; tops >= 1; tops--) {
            b.is("two become one", x.op(1), tops);
        }
        x.condition();
        b.is("from the uppermost on", x.value(0, 0), 1 - (20 - (300 - (4000 - (50000 - 600000)))));
        x.number(7);
        x.number(3);
        x.op(7);
        x.op(1);
        x.condition();
        b.is("a side of one is the uppermost", x.value(1, 0), 7);
        for (int v : numbers) {
            x.number(v);
        }
        x.op(7);
        for (int k = 0; k < 5; k++) {
            x.op(0);
        }
        b.is("a side of one on top of five", x.value(x.condition(), 0), 54321);
    }

    private static void number(Bounds b) {
        b.sentence(0, "PARTS: a NUMBER;");
        int[] values = {LOW, LOW + 1, -1, 0, 1, HIGH - 1, HIGH};
        for (int v : values) {
            PerhapsWas x = new PerhapsWas();
            b.is("number " + v, x.value(Made.constant(x, v), 0), v);
        }
    }

    private static void name(Bounds b) {
        b.sentence(0, "a NAME of a PROCESS (its value behind the EVENTS of the CUT);");
        for (int p = 0; p < 4; p++) {
            PerhapsWas x = Made.with(4);
            int c = Made.ofPart(x, 0, p, 1);
            int[] behind = {0, 8, 8, -1, 1, 1, 4};
            x.own(p, 1, 8, 0);
            x.send(p, (p + 1) % 4);
            x.own(p, 1, -1, 0);
            x.own(p, 1, 2, 1);
            x.own(p, 2, 5, 0);
            x.own(p, 1, 4, 0);
            x.take(0);
            for (int i = 0; i <= 6; i++) {
                int cut = i * Made.WEIGHTS[p];
                b.is("of " + p + ", behind " + i, x.value(c, cut), behind[i]);
                b.is("and behind another one's", x.value(c, cut + Made.WEIGHTS[(p + 1) % 4]), behind[i]);
            }
        }
    }

    private static void underWay(Bounds b) {
        b.sentence(0, "LETTERS UNDER WAY from one PROCESS to another one (sent in the CUT, not taken in it);");
        PerhapsWas x = Made.with(3);
        int there = Made.ofPart(x, 1, 0, 1);
        int back = Made.ofPart(x, 1, 1, 0);
        int aside = Made.ofPart(x, 1, 0, 2);
        for (int l = 0; l < 6; l++) {
            x.send(0, 1);
        }
        for (int l = 5; l > 0; l--) {
            x.take(l);
        }
        for (int sent = 0; sent <= 6; sent++) {
            b.is(sent + " sent, none taken", x.value(there, sent), sent);
        }
        for (int taken = 0; taken <= 5; taken++) {
            b.is("six sent, so many taken: " + taken, x.value(there, 6 + 7 * taken), 6 - taken);
            b.is("not the other way", x.value(back, 6 + 7 * taken), 0);
            b.is("not to another one", x.value(aside, 6 + 7 * taken), 0);
        }
        b.is("taken, not sent", x.value(there, 7 * 5), 0);
        b.is("the last is taken, not sent", x.value(there, 5 + 7), 5);
        x.undo();
        b.is("a TAKE that was taken back", x.value(there, 6 + 7 * 4), 2);
        PerhapsWas most = Made.with(4);
        for (int l = 0; l < 24; l++) {
            most.send(l / 6, (l / 6 + 1) % 4);
        }
        b.is("of as many as there can be, the first", most.value(Made.ofPart(most, 1, 0, 1), 2400), 6);
        b.is("of as many as there can be, the last", most.value(Made.ofPart(most, 1, 3, 0), 2400), 6);
    }

    private static void events(Bounds b) {
        b.sentence(0, "how many EVENTS of a PROCESS are in the CUT;");
        PerhapsWas x = Made.full();
        for (int p = 0; p < 4; p++) {
            int c = Made.ofPart(x, 2, p, 0);
            int weight = Made.WEIGHTS[p];
            for (int in = 0; in <= 6; in++) {
                b.is(in + " of " + p, x.value(c, in * weight), in);
                b.is(in + " of " + p + " and all others", x.value(c, 2400 - (6 - in) * weight), in);
            }
        }
    }

    private static int reckon(int left, int right, int op) {
        PerhapsWas x = new PerhapsWas();
        x.number(left);
        if (op != 7) {
            x.number(right);
        }
        x.op(op);
        return x.value(x.condition(), 0);
    }

    private static void reckoningOps(Bounds b) {
        b.sentence(0, "of two sides: 0 + 1 - 2 * (wrapping),");
        int[][] rows = {
            {HIGH, 1, 0, LOW}, {LOW, -1, 0, HIGH}, {LOW, LOW, 0, 0}, {HIGH, HIGH, 0, -2}, {LOW, HIGH, 0, -1}, {0, 0, 0, 0},
            {LOW, 1, 1, HIGH}, {HIGH, -1, 1, LOW}, {0, LOW, 1, LOW}, {LOW, LOW, 1, 0}, {0, HIGH, 1, -HIGH}, {-2, HIGH, 1, HIGH},
            {LOW, -1, 2, LOW}, {HIGH, 2, 2, -2}, {HIGH, HIGH, 2, 1}, {LOW, 2, 2, 0}, {65536, 65536, 2, 0}, {65536, 32768, 2, LOW},
            {46341, 46341, 2, -2147479015}, {-1, -1, 2, 1}, {0, LOW, 2, 0},
        };
        for (int[] row : rows) {
            b.is(row[0] + " op " + row[2] + " " + row[1], reckon(row[0], row[1], row[2]), row[3]);
        }
    }

    private static void opsOfTwo(Bounds b) {
        b.sentence(0, "3 less than, 4 alike, 5 both not 0, 6 one of them not 0: 1 or 0;");
        int[] values = {LOW, LOW + 1, -2, -1, 0, 1, 2, 65536, HIGH - 1, HIGH};
        for (int left : values) {
            for (int right : values) {
                String told = " of " + left + " and " + right;
                b.is("3" + told, reckon(left, right, 3), (long) left - right < 0 ? 1 : 0);
                b.is("4" + told, reckon(left, right, 4), left == right ? 1 : 0);
                b.is("5" + told, reckon(left, right, 5), left == 0 || right == 0 ? 0 : 1);
                b.is("6" + told, reckon(left, right, 6), left == 0 && right == 0 ? 0 : 1);
            }
        }
    }

    private static void opOfOne(Bounds b) {
        b.sentence(0, "of one: 7 it is 0: 1 or 0.");
        int[] values = {LOW, -1, 0, 1, 2, 65536, HIGH};
        for (int v : values) {
            b.is("7 of " + v, reckon(v, 0, 7), v == 0 ? 1 : 0);
        }
        b.is("of none", new PerhapsWas().op(7), STATE);
    }

    private static void holds(Bounds b) {
        b.sentence(0, "It HOLDS at a CUT if it is not 0 there.");
        int[] values = {LOW, -1, 0, 1, 2, 256, 65536, HIGH};
        for (int v : values) {
            PerhapsWas x = Made.rows(1);
            int c = Made.constant(x, v);
            b.is("at how many, " + v, x.many(c), v == 0 ? 0 : 2);
            b.is("sure, " + v, x.sure(c), v == 0 ? 0 : 1);
            b.is("passes, " + v, x.passes(c), v == 0 ? NONE : 0);
            b.is("before, " + v, x.before(Made.constant(x, 0), c), v == 0 ? 1 : 0);
        }
    }

    private static void noProcessYet(Bounds b) {
        b.sentence(0, "(A PROCESS that there is not yet: 0.)");
        for (int processes = 0; processes <= 3; processes++) {
            PerhapsWas x = Made.with(processes);
            for (int p = 0; p < processes; p++) {
                x.own(p, 2, 9, 0);
            }
            int whole = new int[] {0, 1, 8, 57}[processes];
            for (int p = processes; p < 4; p++) {
                zeroForNow(b, x, whole, Made.ofPart(x, 0, p, 2));
                zeroForNow(b, x, whole, Made.ofPart(x, 1, p, (p + 1) % 4));
                zeroForNow(b, x, whole, Made.ofPart(x, 1, (p + 1) % 4, p));
                zeroForNow(b, x, whole, Made.ofPart(x, 2, p, 0));
                x.clear(1);
            }
        }
        PerhapsWas x = Made.with(3);
        int name = Made.ofPart(x, 0, 3, 2);
        int events = Made.ofPart(x, 2, 3, 0);
        int letters = Made.ofPart(x, 1, 3, 0);
        x.process();
        x.own(3, 2, 5, 0);
        x.send(3, 0);
        b.is("the NAME, once it is there", x.value(name, 686), 5);
        b.is("the EVENTS, once it is there", x.value(events, 686), 2);
        b.is("the LETTERS, once it is there", x.value(letters, 686), 1);
    }

    private static void zeroForNow(Bounds b, PerhapsWas x, int whole, int c) {
        b.is("condition " + c + " at 0", x.value(c, 0), 0);
        b.is("is not refused", x.status(), 0);
        b.is("condition " + c + " at " + whole, x.value(c, whole), 0);
        b.is("is not refused", x.status(), 0);
        b.is("it may not have been", x.may(c), NONE);
    }

    /** 0: SEND; 1: OWN, TAKE: just the cut 14 is not possible. */
    private static PerhapsWas letterRun() {
        PerhapsWas x = Made.with(2);
        x.send(0, 1);
        x.own(1, 0, 1, 0);
        x.take(0);
        return x;
    }

    private static void may(Bounds b) {
        b.sentence(0, "It MAY have been if it HOLDS at some POSSIBLE CUT;");
        PerhapsWas x = letterRun();
        b.is("just at one that is not POSSIBLE", x.may(Made.conditionAt(x, 0, 2)), NONE);
        b.is("just at that without events", x.may(Made.conditionAt(x, 0, 0)), 0);
        b.is("just at that with all", x.may(Made.conditionAt(x, 1, 2)), 15);
        b.is("nowhere", x.may(Made.constant(x, 0)), NONE);
    }

    private static void sure(Bounds b) {
        b.sentence(0, "it SURELY was if each ORDER PASSES one at which it HOLDS.");
        PerhapsWas x = letterRun();
        b.is("each but one", x.sure(Made.conditionAt(x, 0, 1)), 0);
        b.is("that one", x.sure(Made.conditionAt(x, 1, 0)), 0);
        b.is("now here, now there", x.sure(Made.conditionAtTwo(x, 0, 1, 1, 0)), 1);
        b.is("at one that none PASSES", x.sure(Made.conditionAt(x, 0, 2)), 0);
        b.is("all through one", x.sure(Made.conditionAt(x, 1, 1)), 1);
        PerhapsWas empty = new PerhapsWas();
        b.is("of no events, held", empty.sure(Made.constant(empty, 1)), 1);
        b.is("of no events, not held", empty.sure(Made.constant(empty, 0)), 0);
    }

    private static void kept(Bounds b) {
        b.sentence(0, "It is KEPT if at each POSSIBLE CUT with one EVENT more than one at which it HOLDS, it HOLDS, too.");
        PerhapsWas x = letterRun();
        b.is("nowhere", x.is(Made.constant(x, 0), 0), 1);
        b.is("everywhere", x.is(Made.constant(x, 1), 0), 1);
        b.is("at the last alone", x.is(Made.conditionAt(x, 1, 2), 0), 1);
        b.is("at the first alone", x.is(Made.conditionAt(x, 0, 0), 0), 0);
        b.is("not at one just behind", x.is(Made.conditionAtTwo(x, 0, 1, 1, 2), 0), 0);
        b.is("just at one that is not POSSIBLE", x.is(Made.conditionAt(x, 0, 2), 0), 1);
        x.clear(1);
        Made.ofPart(x, 2, 0, 0);
        b.is("at none that is not POSSIBLE, but at those behind", x.is(0, 0), 1);
        x.part(2, 1, 0);
        x.number(1);
        x.op(4);
        x.part(2, 0, 0);
        x.op(6);
        b.is("but for one that is not POSSIBLE", x.is(x.condition(), 0), 1);
    }

    private static void metAndJoined(Bounds b) {
        b.sentence(0, "It is MET (JOINED) if at the MEET (JOIN) of each two POSSIBLE CUTS at which it HOLDS it HOLDS, too.");
        PerhapsWas x = letterRun();
        met(b, "nowhere", x, Made.constant(x, 0), 1, 1);
        met(b, "everywhere", x, Made.constant(x, 1), 1, 1);
        met(b, "at one alone", x, Made.conditionAt(x, 0, 1), 1, 1);
        met(b, "two beside", x, Made.conditionAtTwo(x, 0, 1, 1, 0), 0, 0);
        met(b, "the first and the last", x, Made.conditionAtTwo(x, 0, 0, 1, 2), 1, 1);
        met(b, "one of two is not POSSIBLE", x, Made.conditionAtTwo(x, 0, 2, 1, 0), 1, 1);
        PerhapsWas y = Made.rows(1, 1, 1);
        met(b, "no event", y, fewerThan(y, 1, false), 1, 1);
        met(b, "one event at most", y, fewerThan(y, 2, false), 1, 0);
        met(b, "two events at most", y, fewerThan(y, 3, false), 1, 0);
        met(b, "one event or more", y, fewerThan(y, 1, true), 0, 1);
        met(b, "two events or more", y, fewerThan(y, 2, true), 0, 1);
        met(b, "three events", y, fewerThan(y, 3, true), 1, 1);
    }

    private static void met(Bounds b, String told, PerhapsWas x, int c, int met, int joined) {
        b.is(told + ": MET", x.is(c, 1), met);
        b.is(told + ": JOINED", x.is(c, 2), joined);
    }

    /** That the processes 0 to 2 have fewer events than so many; or not. */
    private static int fewerThan(PerhapsWas x, int events, boolean not) {
        x.part(2, 0, 0);
        x.part(2, 1, 0);
        x.op(0);
        x.part(2, 2, 0);
        x.op(0);
        x.number(events);
        x.op(3);
        if (not) {
            x.op(7);
        }
        return x.condition();
    }
}
