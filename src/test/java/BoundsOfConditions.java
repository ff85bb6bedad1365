import java.util.function.ToLongBiFunction;

/** Promises 19 to 33 at their edges: conditions. */
final class BoundsOfConditions {
    private static final int NONE = PerhapsWas.NONE, BAD = PerhapsWas.BAD;
    private static final int STATE = PerhapsWas.STATE, FULL = PerhapsWas.FULL;
    private static final int LOW = Bounds.LOW, HIGH = Bounds.HIGH;
    private static final long MOST_ORDERS = 2308743493056L;

    private BoundsOfConditions() {
    }

    static void all(Bounds b) {
        p19Number(b);
        p19Full(b);
        p19MoreThan15(b);
        p20Part(b);
        p20None(b);
        p20Bad(b);
        p20Full(b);
        p21Op(b);
        p21None(b);
        p21State(b);
        p21Full(b);
        p22Condition(b);
        p22State(b);
        p22Full(b);
        p23Clear(b);
        p23Bad(b);
        p24Value(b);
        p24Refused(b);
        p24None(b);
        p25Status(b);
        p26May(b);
        p26None(b);
        p27Last(b);
        p27None(b);
        p28Many(b);
        p28None(b);
        p29Sure(b);
        p29None(b);
        p30Avoid(b);
        p30None(b);
        p31Avoids(b);
        p31Most(b);
        p31None(b);
        p32Is(b);
        p32None(b);
        p33Before(b);
        p33OrThatVeryOne(b);
        p33None(b);
    }

    /** Two rows of two events: cuts 0, 1, 7, 2, 8, 14, 9, 15, 16 in order, six orders. */
    private static PerhapsWas grid() {
        return Made.rows(2, 2);
    }

    /** 0: SEND; 1: OWN, TAKE: just the cut 14 is not possible. */
    private static PerhapsWas letterRun() {
        PerhapsWas x = Made.with(2);
        x.send(0, 1);
        x.own(1, 0, 1, 0);
        x.take(0);
        return x;
    }

    /** Conditions that there are not are refused, with none, with some and with all that there can be. */
    private static void noCondition(Bounds b, String call, ToLongBiFunction<PerhapsWas, Integer> asked) {
        for (int c : Bounds.outside(0)) {
            b.refused(NONE, call + " of " + c + " of none", BoundsOfConditions::grid, x -> asked.applyAsLong(x, c));
        }
        for (int c : Bounds.outside(2)) {
            b.refused(NONE, call + " of " + c + " of two", Made::mixed, x -> asked.applyAsLong(x, c));
        }
        for (int c : Bounds.outside(8)) {
            b.refused(NONE, call + " of " + c + " of eight", Made::brimful, x -> asked.applyAsLong(x, c));
        }
        PerhapsWas x = Made.mixed();
        x.clear(1);
        b.is(call + " of one that went", asked.applyAsLong(x, 0), NONE);
    }

    // ---- promises 19 to 21

    private static PerhapsWas pileOf(int... parts) {
        PerhapsWas x = new PerhapsWas();
        for (int k : parts) {
            Made.top(x, k);
        }
        return x;
    }

    private static void p19Number(Bounds b) {
        b.sentence(19, "A NUMBER comes on the pile: how many PARTS' tops it has.");
        PerhapsWas x = new PerhapsWas();
        int[] values = {LOW, -1, 0, 1, HIGH, 7};
        for (int k = 0; k < 6; k++) {
            b.is("number(" + values[k] + ")", x.number(values[k]), k + 1);
        }
        b.is("five tops behind an op", x.op(0), 5);
        b.is("six again", x.number(0), 6);
        x.clear(0);
        b.is("one behind clear()", x.number(LOW), 1);
        b.is("with its own value", x.value(x.condition(), 0), LOW);
    }

    private static void p19Full(Bounds b) {
        b.sentence(19, "FULL: 6, or");
        b.refused(FULL, "a seventh", () -> pileOf(1, 1, 1, 1, 1, 1), x -> x.number(0));
        b.refused(FULL, "a seventh, beside as much of all as there can be", Made::brimful, x -> x.number(0));
        b.is("a sixth", pileOf(1, 1, 1, 1, 1).number(0), 6);
        PerhapsWas x = pileOf(1, 1, 1, 1, 1, 1);
        x.op(7);
        b.is("op 7 makes no room", x.number(0), FULL);
        x.op(0);
        b.is("op 0 makes room", x.number(0), 6);
    }

    private static void p19MoreThan15(Bounds b) {
        b.sentence(19, "FULL: 6, or (here and below) a CONDITION of more than 15 PARTS.");
        b.is("beside one of 15", pileOf(15).number(0), 2);
        b.is("beside five of 15", pileOf(15, 15, 15, 15, 15).number(0), 6);
        b.refused(FULL, "beside six of 15", () -> pileOf(15, 15, 15, 15, 15, 1), x -> x.number(0));
        b.refused(FULL, "op 7 on one of 15", () -> pileOf(15), x -> x.op(7));
        b.refused(FULL, "op 0 on 14 and 1", () -> pileOf(14, 1), x -> x.op(0));
        b.is("op 0 on 13 and 1", pileOf(13, 1).op(0), 1);
        b.is("op 7 on one of 14", pileOf(14).op(7), 1);
    }

    private static void p20Part(Bounds b) {
        b.sentence(20, "A PART comes: what 0 NAME b of PROCESS a, 1 LETTERS UNDER WAY from a to b, 2 EVENTS of PROCESS a (b 0): likewise.");
        for (int a = 0; a < 4; a++) {
            PerhapsWas x = new PerhapsWas();
            for (int name = 0; name < 3; name++) {
                b.is("NAME " + name + " of " + a, x.part(0, a, name), name + 1);
            }
            b.is("EVENTS of " + a, x.part(2, a, 0), 4);
            x.clear(0);
            int tops = 0;
            for (int q = 0; q < 4; q++) {
                if (q != a) {
                    tops++;
                    b.is("LETTERS from " + a + " to " + q, x.part(1, a, q), tops);
                }
            }
        }
        PerhapsWas x = Made.with(4);
        x.own(3, 2, 44, 0);
        x.send(3, 2);
        b.is("the NAME", x.value(Made.ofPart(x, 0, 3, 2), 686), 44);
        b.is("another NAME", x.value(Made.ofPart(x, 0, 3, 1), 686), 0);
        b.is("the LETTERS", x.value(Made.ofPart(x, 1, 3, 2), 686), 1);
        b.is("the LETTERS the other way", x.value(Made.ofPart(x, 1, 2, 3), 686), 0);
        b.is("the EVENTS", x.value(Made.ofPart(x, 2, 3, 0), 686), 2);
        b.is("another one's EVENTS", x.value(Made.ofPart(x, 2, 2, 0), 686), 0);
    }

    private static void p20None(Bounds b) {
        b.sentence(20, "NONE: a, b not 0 .. 3 (a NAME not 0 .. 2), what;");
        for (int wrong : Bounds.outside(4)) {
            for (int kind = 0; kind < 3; kind++) {
                int what = kind;
                b.refused(NONE, "part(" + what + ", " + wrong + ", 0)", Made::mixed, x -> x.part(what, wrong, 0));
                b.refused(NONE, "part(" + what + ", 1, " + wrong + ")", Made::mixed, x -> x.part(what, 1, wrong));
            }
        }
        for (int name : Bounds.outside(3)) {
            b.refused(NONE, "NAME " + name, Made::mixed, x -> x.part(0, 0, name));
        }
        for (int what : Bounds.outside(3)) {
            b.refused(NONE, "what " + what, Made::mixed, x -> x.part(what, 1, 0));
        }
    }

    private static void p20Bad(Bounds b) {
        b.sentence(20, "BAD: a is b (1), b is not 0 (2);");
        for (int p = 0; p < 4; p++) {
            int a = p;
            b.refused(BAD, "part(1, " + a + ", " + a + ")", Made::mixed, x -> x.part(1, a, a));
            for (int q = 1; q < 4; q++) {
                int not0 = q;
                b.refused(BAD, "part(2, " + a + ", " + q + ")", Made::mixed, x -> x.part(2, a, not0));
            }
        }
        b.is("a is b is fine for a NAME", new PerhapsWas().part(0, 2, 2), 1);
        b.is("a is b is fine for EVENTS", new PerhapsWas().part(2, 0, 0), 1);
        b.is("b is not 0 is fine for LETTERS", new PerhapsWas().part(1, 0, 3), 1);
    }

    private static void p20Full(Bounds b) {
        b.sentence(20, "FULL.");
        b.refused(FULL, "a seventh NAME", () -> pileOf(1, 1, 1, 1, 1, 1), x -> x.part(0, 0, 0));
        b.refused(FULL, "a seventh, LETTERS", () -> pileOf(1, 1, 1, 1, 1, 1), x -> x.part(1, 0, 1));
        b.refused(FULL, "a seventh, EVENTS", Made::brimful, x -> x.part(2, 0, 0));
        b.is("a sixth", pileOf(1, 1, 1, 1, 1).part(2, 0, 0), 6);
        b.is("beside five of 15", pileOf(15, 15, 15, 15, 15).part(0, 0, 0), 6);
    }

    private static void p21Op(Bounds b) {
        b.sentence(21, "An op takes its sides: likewise.");
        for (int op = 0; op < 8; op++) {
            b.is("op " + op + " on six", pileOf(1, 1, 1, 1, 1, 1).op(op), op == 7 ? 6 : 5);
            b.is("op " + op + " on just as many as it needs", op == 7 ? pileOf(1).op(op) : pileOf(1, 1).op(op), 1);
        }
    }

    private static void p21None(Bounds b) {
        b.sentence(21, "NONE: op not 0 .. 7;");
        for (int op : Bounds.outside(8)) {
            b.refused(NONE, "op " + op, Made::mixed, x -> x.op(op));
            b.refused(NONE, "op " + op + " on six", Made::brimful, x -> x.op(op));
        }
    }

    private static void p21State(Bounds b) {
        b.sentence(21, "STATE: the pile has not as many;");
        for (int k = 0; k < 8; k++) {
            int op = k;
            b.refused(STATE, "op " + op + " on none", PerhapsWas::new, x -> x.op(op));
            if (op < 7) {
                b.refused(STATE, "op " + op + " on one", () -> pileOf(3), x -> x.op(op));
            }
        }
        PerhapsWas x = pileOf(1, 1);
        x.clear(0);
        b.is("behind clear()", x.op(7), STATE);
        x.number(1);
        x.condition();
        b.is("behind condition()", x.op(7), STATE);
    }

    private static void p21Full(Bounds b) {
        b.sentence(21, "FULL.");
        for (int left = 1; left <= 15; left++) {
            for (int right = 1; right <= 15; right++) {
                PerhapsWas x = pileOf(15, left, right);
                b.is("op on " + left + " and " + right, x.op(left % 7), left + right < 15 ? 2 : FULL);
            }
            b.is("op 7 on " + left, pileOf(15, left).op(7), left < 15 ? 2 : FULL);
        }
        for (int k = 0; k < 7; k++) {
            int op = k;
            b.refused(FULL, "op " + op + " on 14 and 1", () -> pileOf(14, 1), x -> x.op(op));
            b.refused(FULL, "op " + op + " on 1 and 14", () -> pileOf(1, 14), x -> x.op(op));
            b.refused(FULL, "op " + op + " on 15 and 15", () -> pileOf(15, 15), x -> x.op(op));
        }
        b.refused(FULL, "op 7 on 15", () -> pileOf(1, 15), x -> x.op(7));
    }

    // ---- promises 22 and 23

    private static void p22Condition(Bounds b) {
        b.sentence(22, "The only one on the pile, which goes from there, is a CONDITION: its number.");
        PerhapsWas x = new PerhapsWas();
        for (int c = 0; c < 8; c++) {
            x.number(20 + c);
            b.is("condition()", x.condition(), c);
            b.is("it goes from the pile", x.count(5), 0);
            b.is("so many", x.count(4), c + 1);
            b.is("its value", x.value(c, 0), 20 + c);
        }
        x.number(99);
        x.op(7);
        b.is("what comes on the pile changes none", x.value(7, 0), 27);
    }

    private static void p22State(Bounds b) {
        b.sentence(22, "STATE: there is not just one;");
        b.refused(STATE, "none", PerhapsWas::new, x -> x.condition());
        b.refused(STATE, "two", () -> pileOf(1, 1), x -> x.condition());
        b.refused(STATE, "six", () -> pileOf(1, 1, 1, 1, 1, 1), x -> x.condition());
        PerhapsWas x = pileOf(1);
        x.condition();
        b.is("it is gone", x.condition(), STATE);
    }

    private static PerhapsWas eightAndOne() {
        PerhapsWas x = grid();
        for (int c = 0; c <= 8; c++) {
            Made.constant(x, c);
        }
        return x;
    }

    private static void p22Full(Bounds b) {
        b.sentence(22, "FULL.");
        b.refused(FULL, "a ninth", BoundsOfConditions::eightAndOne, x -> x.condition());
        PerhapsWas x = eightAndOne();
        b.is("it stays on the pile", x.count(5), 1);
        x.clear(1);
        x.number(77);
        b.is("clear(1) makes room", x.condition(), 0);
    }

    private static void p23Clear(Bounds b) {
        b.sentence(23, "The pile is empty (all 1: there are no CONDITIONS, too): how many went.");
        b.is("nothing", new PerhapsWas().clear(0), 0);
        b.is("nothing of all", new PerhapsWas().clear(1), 0);
        b.is("six", Made.brimful().clear(0), 6);
        b.is("six, and eight CONDITIONS", Made.brimful().clear(1), 14);
        PerhapsWas x = Made.brimful();
        x.clear(0);
        b.is("the pile is empty", x.count(5), 0);
        b.is("the CONDITIONS stay", x.count(4), 8);
        b.is("as they were", x.many(1), Made.brimful().many(1));
        b.is("now just they", x.clear(1), 8);
        b.is("there are none", x.count(4), 0);
        b.is("not the first", x.many(0), NONE);
        b.is("again", x.clear(1), 0);
        b.is("events stay", x.count(1), 24);
        b.is("THE ROW stays", x.count(6), 24);
        b.is("numbers begin with 0 again", Made.constant(x, 5), 0);
        b.is("with its own value", x.value(0, 0), 5);
    }

    private static void p23Bad(Bounds b) {
        b.sentence(23, "BAD: all not 0, 1.");
        for (int all : Bounds.outside(2)) {
            b.refused(BAD, "clear(" + all + ")", Made::mixed, x -> x.clear(all));
        }
        b.refused(BAD, "clear(2) of nothing", PerhapsWas::new, x -> x.clear(2));
    }

    // ---- promises 24 and 25

    private static void p24Value(Bounds b) {
        b.sentence(24, "What a CONDITION is at a CUT, POSSIBLE or not; and status() is 0;");
        PerhapsWas x = letterRun();
        Made.ofPart(x, 2, 1, 0);
        b.is("at the first", x.value(0, 0), 0);
        b.is("status()", x.status(), 0);
        x.value(0, -1);
        b.is("at one that is not POSSIBLE", x.value(0, 14), 2);
        b.is("status()", x.status(), 0);
        x.value(0, -1);
        b.is("at the last", x.value(0, 15), 2);
        b.is("status()", x.status(), 0);
        x.value(1, 0);
        Made.constant(x, NONE);
        b.is("-1 is no refusal", x.value(1, 0), -1);
        b.is("status()", x.status(), 0);
        b.is("of no events", onEmpty(LOW), LOW);
        b.is("of no events", onEmpty(HIGH), HIGH);
    }

    private static int onEmpty(int v) {
        PerhapsWas x = new PerhapsWas();
        return x.value(Made.constant(x, v), 0);
    }

    private static void p24Refused(Bounds b) {
        b.sentence(24, "else 0, and status() what it is refused with.");
        PerhapsWas x = letterRun();
        Made.constant(x, 5);
        b.is("no such CUT", x.value(0, 2), 0);
        b.is("status()", x.status(), NONE);
        b.is("a value", x.value(0, 0), 5);
        b.is("status()", x.status(), 0);
        b.is("no such CONDITION", x.value(1, 0), 0);
        b.is("status()", x.status(), NONE);
        b.is("neither", x.value(1, 2), 0);
        b.is("status()", x.status(), NONE);
    }

    private static void p24None(Bounds b) {
        b.sentence(24, "NONE.");
        for (int c : Bounds.outside(2)) {
            noValue(b, Made.mixed(), c, 0);
        }
        for (int c : Bounds.outside(8)) {
            noValue(b, Made.brimful(), c, 0);
        }
        int[] noCuts = {-1, -7, LOW, 3, 6, 7 + 3, 21, 49, 343, 2400, 2401, 65536, HIGH};
        for (int cut : noCuts) {
            PerhapsWas x = grid();
            Made.constant(x, 5);
            noValue(b, x, 0, cut);
        }
        PerhapsWas full = Made.full();
        Made.constant(full, 5);
        noValue(b, full, 0, 2401);
    }

    private static void noValue(Bounds b, PerhapsWas x, int c, int cut) {
        x.value(0, 0);
        b.is("status() ahead of it", x.status(), 0);
        b.is("value(" + c + ", " + cut + ")", x.value(c, cut), 0);
        b.is("its status()", x.status(), NONE);
    }

    private static void p25Status(Bounds b) {
        b.sentence(25, "As value() says.");
        b.is("ahead of value()", new PerhapsWas().status(), 0);
        PerhapsWas x = Made.mixed();
        x.may(9);
        x.cuts(-2);
        x.process();
        x.op(9);
        b.is("no other refusal", x.status(), 0);
        x.value(9, 0);
        b.is("a refusal", x.status(), NONE);
        b.is("it stays so", x.status(), NONE);
        x.may(0);
        x.undo();
        x.clear(1);
        b.is("no other call", x.status(), NONE);
        Made.constant(x, 0);
        x.value(0, 0);
        b.is("a value", x.status(), 0);
        b.is("it stays so", x.status(), 0);
        b.is("each has its own", new PerhapsWas().status(), 0);
    }

    // ---- promises 26 to 28

    private static void p26May(Bounds b) {
        b.sentence(26, "The first POSSIBLE CUT at which it HOLDS: its number.");
        PerhapsWas x = grid();
        b.is("everywhere", x.may(Made.constant(x, -1)), 0);
        b.is("just at the last", x.may(Made.conditionAt(x, 2, 2)), 16);
        b.is("by SIZE", x.may(Made.conditionAtTwo(x, 2, 0, 0, 1)), 7);
        b.is("then by number", x.may(Made.conditionAtTwo(x, 0, 1, 1, 0)), 1);
        b.is("of no events", emptyWith(1).may(0), 0);
        PerhapsWas full = Made.full();
        b.is("just at the last of all", full.may(lastOfFour(full)), 2400);
    }

    private static PerhapsWas emptyWith(int v) {
        PerhapsWas x = new PerhapsWas();
        Made.constant(x, v);
        return x;
    }

    /** That there are 24 events. */
    private static int lastOfFour(PerhapsWas x) {
        for (int p = 0; p < 4; p++) {
            x.part(2, p, 0);
        }
        x.op(0);
        x.op(0);
        x.op(0);
        x.number(24);
        x.op(4);
        return x.condition();
    }

    private static void p26None(Bounds b) {
        b.sentence(26, "NONE: there is none, too.");
        noCondition(b, "may", (x, c) -> x.may(c));
        b.is("nowhere", emptyWith(0).may(0), NONE);
        PerhapsWas x = letterRun();
        b.is("just at one that is not POSSIBLE", x.may(Made.conditionAt(x, 0, 2)), NONE);
        PerhapsWas full = Made.full();
        b.is("nowhere of all", full.may(Made.constant(full, 0)), NONE);
    }

    private static void p27Last(Bounds b) {
        b.sentence(27, "The last one.");
        PerhapsWas x = grid();
        b.is("everywhere", x.last(Made.constant(x, -1)), 16);
        b.is("just at the first", x.last(Made.conditionAt(x, 0, 0)), 0);
        b.is("by SIZE", x.last(Made.conditionAtTwo(x, 2, 0, 0, 1)), 2);
        b.is("then by number", x.last(Made.conditionAtTwo(x, 0, 1, 1, 0)), 7);
        b.is("of no events", emptyWith(1).last(0), 0);
        PerhapsWas full = Made.full();
        b.is("of all", full.last(Made.constant(full, 1)), 2400);
    }

    private static void p27None(Bounds b) {
        b.sentence(27, "NONE.");
        noCondition(b, "last", (x, c) -> x.last(c));
        b.is("nowhere", emptyWith(0).last(0), NONE);
        PerhapsWas x = letterRun();
        b.is("just at one that is not POSSIBLE", x.last(Made.conditionAt(x, 0, 2)), NONE);
        PerhapsWas full = Made.full();
        b.is("nowhere of all", full.last(Made.constant(full, 0)), NONE);
    }

    private static void p28Many(Bounds b) {
        b.sentence(28, "At how many POSSIBLE CUTS it HOLDS.");
        PerhapsWas x = letterRun();
        b.is("everywhere", x.many(Made.constant(x, LOW)), 5);
        b.is("nowhere", x.many(Made.constant(x, 0)), 0);
        b.is("just at one that is not POSSIBLE", x.many(Made.conditionAt(x, 0, 2)), 0);
        b.is("at that and another one", x.many(Made.conditionAtTwo(x, 0, 2, 1, 2)), 1);
        b.is("of no events", emptyWith(1).many(0), 1);
        PerhapsWas full = Made.full();
        b.is("of all", full.many(Made.constant(full, 1)), 2401);
        b.is("the last of all", full.many(lastOfFour(full)), 1);
    }

    private static void p28None(Bounds b) {
        b.sentence(28, "NONE.");
        noCondition(b, "many", (x, c) -> x.many(c));
    }

    // ---- promises 29 to 31

    private static void p29Sure(Bounds b) {
        b.sentence(29, "Whether it SURELY was: 1, 0.");
        PerhapsWas x = grid();
        b.is("nowhere", x.sure(Made.constant(x, 0)), 0);
        b.is("everywhere", x.sure(Made.constant(x, 1)), 1);
        b.is("at the first", x.sure(Made.conditionAt(x, 0, 0)), 1);
        b.is("at the last", x.sure(Made.conditionAt(x, 2, 2)), 1);
        b.is("at both firsts", x.sure(Made.conditionAtTwo(x, 0, 1, 1, 0)), 1);
        b.is("at one of both", x.sure(Made.conditionAt(x, 1, 0)), 0);
        b.is("at two of three", x.sure(Made.conditionAtTwo(x, 1, 1, 2, 0)), 0);
        b.is("of no events", emptyWith(1).sure(0), 1);
        b.is("nowhere, of no events", emptyWith(0).sure(0), 0);
        PerhapsWas full = Made.full();
        b.is("the last of all", full.sure(lastOfFour(full)), 1);
        b.is("nowhere of all", full.sure(Made.constant(full, 0)), 0);
    }

    private static void p29None(Bounds b) {
        b.sentence(29, "NONE.");
        noCondition(b, "sure", (x, c) -> x.sure(c));
    }

    private static void avoided(Bounds b, PerhapsWas x, int c, String order) {
        for (int i = 0; i < order.length(); i++) {
            b.is("event " + i + " of " + order, x.avoid(c, i), order.charAt(i) - '0');
        }
    }

    private static void p30Avoid(Bounds b) {
        b.sentence(30, "The PROCESS of EVENT i of the first ORDER (as of order()) that PASSES no CUT at which it HOLDS.");
        PerhapsWas x = grid();
        avoided(b, x, Made.constant(x, 0), "0011");
        avoided(b, x, Made.conditionAt(x, 2, 0), "0101");
        avoided(b, x, Made.conditionAt(x, 1, 0), "1001");
        avoided(b, x, Made.conditionAtTwo(x, 1, 0, 1, 1), "1100");
        avoided(b, x, Made.conditionAtTwo(x, 2, 0, 1, 2), "0101");
        PerhapsWas full = Made.full();
        int none = Made.constant(full, 0);
        for (int i = 0; i < 24; i++) {
            b.is("event " + i + " of all", full.avoid(none, i), i / 6);
        }
        avoided(b, full, Made.conditionAt(full, 1, 0), "100000011111222222333333");
    }

    private static void p30None(Bounds b) {
        b.sentence(30, "NONE: none such.");
        noCondition(b, "avoid", (x, c) -> x.avoid(c, 0));
        for (int i : Bounds.outside(6)) {
            b.refused(NONE, "avoid(1, " + i + ")", Made::mixed, x -> x.avoid(1, i));
        }
        b.is("the last event", Made.mixed().avoid(1, 5), 1);
        PerhapsWas x = grid();
        int[] sure = {Made.constant(x, 1), Made.conditionAt(x, 0, 0), Made.conditionAt(x, 2, 2), Made.conditionAtTwo(x, 0, 1, 1, 0)};
        for (int c : sure) {
            for (int i = 0; i <= 4; i++) {
                b.is("no ORDER avoids " + c + ", event " + i, x.avoid(c, i), NONE);
            }
        }
        b.is("no events", emptyWith(0).avoid(0, 0), NONE);
        x.orders();
        b.is("no CONDITION, behind orders()", x.avoid(4, 0), NONE);
        b.is("no ORDER, behind orders()", x.avoid(0, 0), NONE);
        PerhapsWas full = Made.full();
        b.is("event 24 of all", full.avoid(Made.constant(full, 0), 24), NONE);
    }

    private static void p31Avoids(Bounds b) {
        b.sentence(31, "How many ORDERS PASS no CUT at which it HOLDS;");
        PerhapsWas x = grid();
        b.is("nowhere", x.avoids(Made.constant(x, 0)), 6);
        b.is("everywhere", x.avoids(Made.constant(x, 1)), 0);
        b.is("at the first", x.avoids(Made.conditionAt(x, 0, 0)), 0);
        b.is("at the last", x.avoids(Made.conditionAt(x, 2, 2)), 0);
        b.is("at the middle", x.avoids(Made.conditionAt(x, 1, 1)), 2);
        b.is("at a corner", x.avoids(Made.conditionAt(x, 2, 0)), 5);
        b.is("of no events", emptyWith(0).avoids(0), 1);
        b.is("of no events, everywhere", emptyWith(1).avoids(0), 0);
        PerhapsWas y = letterRun();
        b.is("just at one that is not POSSIBLE", y.avoids(Made.conditionAt(y, 0, 2)), 2);
    }

    private static void p31Most(Bounds b) {
        b.sentence(31, "10^18: so many or more.");
        PerhapsWas x = Made.full();
        b.is("the most that there can be are fewer", x.avoids(Made.constant(x, 0)), MOST_ORDERS);
        b.is("none of them", x.avoids(lastOfFour(x)), 0);
    }

    private static void p31None(Bounds b) {
        b.sentence(31, "-1: NONE.");
        noCondition(b, "avoids", (x, c) -> x.avoids(c));
    }

    // ---- promises 32 and 33

    private static void p32Is(Bounds b) {
        b.sentence(32, "Of a CONDITION what 0 whether it is KEPT, 1 MET, 2 JOINED: 1, 0.");
        PerhapsWas x = grid();
        x.part(2, 0, 0);
        x.part(2, 1, 0);
        x.op(6);
        int begun = x.condition();
        x.part(2, 0, 0);
        x.part(2, 1, 0);
        x.op(5);
        x.op(7);
        int notBothBegun = x.condition();
        int[][] rows = {
            {begun, 1, 0, 1}, {notBothBegun, 0, 1, 0},
            {Made.constant(x, 0), 1, 1, 1}, {Made.constant(x, 1), 1, 1, 1},
            {Made.conditionAt(x, 2, 2), 1, 1, 1}, {Made.conditionAt(x, 0, 0), 0, 1, 1},
            {Made.conditionAtTwo(x, 1, 2, 2, 1), 0, 0, 0},
        };
        for (int[] row : rows) {
            for (int what = 0; what < 3; what++) {
                b.is("is(" + row[0] + ", " + what + ")", x.is(row[0], what), row[1 + what]);
            }
        }
        for (int what = 0; what < 3; what++) {
            b.is("of no events", emptyWith(1).is(0, what), 1);
            b.is("nowhere, of no events", emptyWith(0).is(0, what), 1);
            PerhapsWas full = Made.full();
            b.is("everywhere, of all", full.is(Made.constant(full, 1), what), 1);
            b.is("just at the last of all", full.is(lastOfFour(full), what), 1);
            b.is("all rows 0 and 1, of all", full.is(Made.conditionAt(full, 6, 6), what), 1);
            b.is("no rows 0 and 1, of all", full.is(Made.conditionAt(full, 0, 0), what), what == 0 ? 0 : 1);
        }
    }

    private static void p32None(Bounds b) {
        b.sentence(32, "NONE.");
        for (int kind = 0; kind < 3; kind++) {
            int what = kind;
            noCondition(b, "is " + what, (x, c) -> x.is(c, what));
        }
        for (int what : Bounds.outside(3)) {
            b.refused(NONE, "what " + what, Made::mixed, x -> x.is(0, what));
        }
    }

    private static void p33Before(Bounds b) {
        b.sentence(33, "Whether each ORDER that PASSES a CUT at which d HOLDS PASSES one at which c HOLDS ahead of it,");
        PerhapsWas x = grid();
        int never = Made.constant(x, 0);
        int first = Made.conditionAt(x, 0, 0);
        int last = Made.conditionAt(x, 2, 2);
        int middle = Made.conditionAt(x, 1, 1);
        b.is("the first, the last", x.before(first, last), 1);
        b.is("the last, the first", x.before(last, first), 0);
        b.is("not each ORDER", x.before(middle, last), 0);
        b.is("behind it alone", x.before(last, middle), 0);
        b.is("no ORDER PASSES d", x.before(never, never), 1);
        b.is("c nowhere", x.before(never, last), 0);
        b.is("d at the first, too", x.before(middle, Made.conditionAtTwo(x, 0, 0, 2, 2)), 0);
        b.is("all ORDERS that PASS d", x.before(Made.conditionAt(x, 1, 0), Made.conditionAt(x, 2, 0)), 1);
        PerhapsWas full = Made.full();
        int end = lastOfFour(full);
        b.is("everywhere, the last of all", full.before(Made.constant(full, 1), end), 1);
        b.is("nowhere, the last of all", full.before(Made.constant(full, 0), end), 0);
        PerhapsWas y = letterRun();
        b.is("d just at one that is not POSSIBLE", y.before(Made.constant(y, 0), Made.conditionAt(y, 0, 2)), 1);
        b.is("c just at one that is not POSSIBLE", y.before(Made.conditionAt(y, 0, 2), Made.conditionAt(y, 1, 2)), 0);
    }

    private static void p33OrThatVeryOne(Bounds b) {
        b.sentence(33, "or that very one: 1, 0.");
        PerhapsWas x = grid();
        int first = Made.conditionAt(x, 0, 0);
        int last = Made.conditionAt(x, 2, 2);
        int middle = Made.conditionAt(x, 1, 1);
        int always = Made.constant(x, 1);
        b.is("the first", x.before(first, first), 1);
        b.is("the last", x.before(last, last), 1);
        b.is("one that some pass", x.before(middle, middle), 1);
        b.is("everywhere", x.before(always, always), 1);
        b.is("the first, everywhere", x.before(first, always), 1);
        b.is("the last, everywhere", x.before(last, always), 0);
        PerhapsWas empty = emptyWith(1);
        b.is("of no events", empty.before(0, 0), 1);
        Made.constant(empty, 0);
        b.is("of no events, never c", empty.before(1, 0), 0);
        b.is("of no events, never d", empty.before(0, 1), 1);
    }

    private static void p33None(Bounds b) {
        b.sentence(33, "NONE.");
        noCondition(b, "before, c", (x, c) -> x.before(c, 0));
        noCondition(b, "before, d", (x, d) -> x.before(0, d));
        noCondition(b, "before, c and d", (x, c) -> x.before(c, c));
    }
}
