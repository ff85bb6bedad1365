import java.util.List;
import java.util.function.ToLongFunction;

/** The terms at their edges: 3 REFUSALS, and which of several comes first. */
final class BoundsOfRefusals {
    private static final int NONE = PerhapsWas.NONE, BAD = PerhapsWas.BAD;
    private static final int STATE = PerhapsWas.STATE, FULL = PerhapsWas.FULL;

    /** Calls that are refused however much there is of all. */
    private static final List<ToLongFunction<PerhapsWas>> WRONG = List.of(
            x -> x.own(4, 0, 1, 0), x -> x.own(0, 3, 1, 0), x -> x.own(0, 0, 1, 2), x -> x.send(0, 0), x -> x.send(0, 4),
            x -> x.take(24), x -> x.wait(0, 0), x -> x.wait(4, 0), x -> x.event(0, 6, 0), x -> x.event(0, 0, 3),
            x -> x.letter(24, 0), x -> x.letter(0, 4), x -> x.ahead(0, 0, 0, 6), x -> x.clock(0, 0, 4), x -> x.possible(2401),
            x -> x.cuts(-2), x -> x.next(2401), x -> x.join(0, 2401, 0), x -> x.join(0, 0, 2), x -> x.least(0, 7),
            x -> x.order(-1, 0), x -> x.order(0, 24), x -> x.part(0, 4, 0), x -> x.part(1, 1, 1), x -> x.part(2, 1, 1),
            x -> x.op(8), x -> x.op(-1), x -> x.condition(), x -> x.clear(2), x -> x.may(8), x -> x.last(8), x -> x.many(8),
            x -> x.sure(8), x -> x.avoid(8, 0), x -> x.avoid(0, 24), x -> x.avoids(8), x -> x.is(8, 0), x -> x.is(0, 3),
            x -> x.before(8, 0), x -> x.before(0, 8), x -> x.say(4), x -> x.passes(8), x -> x.count(7));

    private BoundsOfRefusals() {
    }

    static void all(Bounds b) {
        p03FirstTold(b);
        p04FirstTold(b);
        p05FirstTold(b);
        p06FirstTold(b);
        p15FirstTold(b);
        p20FirstTold(b);
        p21FirstTold(b);
        p22FirstTold(b);
        p34FirstTold(b);
        p36FirstTold(b);
        firstTold(b);
        none(b);
        bad(b);
        state(b);
        full(b);
        changeNothing(b);
    }

    private static void p03FirstTold(Bounds b) {
        b.sentence(3, "NONE (a NAME that there is not, too); BAD: add not 0, 1; FULL.");
        b.refused(NONE, "no PROCESS, add not as told", Made::mixed, x -> x.own(3, 0, 1, 2));
        b.refused(NONE, "no NAME, add not as told", Made::mixed, x -> x.own(0, 3, 1, 2));
        b.refused(NONE, "no NAME, no room", Made::brimful, x -> x.own(0, 3, 1, 0));
        b.refused(NONE, "no NAME, add not as told, no room", Made::brimful, x -> x.own(0, -1, 1, -1));
        b.refused(BAD, "add not as told, no room", Made::brimful, x -> x.own(0, 0, 1, 2));
    }

    private static void p04FirstTold(Bounds b) {
        b.sentence(4, "NONE; BAD: q is p; FULL.");
        b.refused(NONE, "q is p, but there is none", Made::mixed, x -> x.send(3, 3));
        b.refused(NONE, "q is p, but below 0", Made::mixed, x -> x.send(-1, -1));
        b.refused(NONE, "no q, no room", Made::brimful, x -> x.send(0, 4));
        b.refused(BAD, "q is p, no room", Made::brimful, x -> x.send(0, 0));
    }

    private static void p05FirstTold(Bounds b) {
        b.sentence(5, "NONE; STATE: it was taken; FULL.");
        b.refused(NONE, "no LETTER, no room", Made::brimful, x -> x.take(8));
        b.refused(STATE, "it was taken, no room", Made::brimful, x -> x.take(0));
        b.refused(FULL, "it was not taken, no room", Made::brimful, x -> x.take(1));
    }

    private static void p06FirstTold(Bounds b) {
        b.sentence(6, "NONE; BAD: q is p; FULL.");
        b.refused(NONE, "q is p, but there is none", Made::mixed, x -> x.wait(3, 3));
        b.refused(NONE, "q is p, but below 0", Made::mixed, x -> x.wait(-1, -1));
        b.refused(NONE, "no q, no room", Made::brimful, x -> x.wait(0, 4));
        b.refused(BAD, "q is p, no room", Made::brimful, x -> x.wait(0, 0));
    }

    private static void p15FirstTold(Bounds b) {
        b.sentence(15, "NONE; BAD: meet not 0, 1.");
        b.refused(NONE, "no CUT a, meet not as told", Made::mixed, x -> x.join(-1, 0, 2));
        b.refused(NONE, "no CUT b, meet not as told", Made::mixed, x -> x.join(0, 5, -1));
    }

    private static void p20FirstTold(Bounds b) {
        b.sentence(20, "NONE: a, b not 0 .. 3 (a NAME not 0 .. 2), what; BAD: a is b (1), b is not 0 (2); FULL.");
        b.refused(NONE, "a is b, but not 0 .. 3", Made::mixed, x -> x.part(1, 4, 4));
        b.refused(NONE, "b is not 0, nor 0 .. 3", Made::mixed, x -> x.part(2, 0, 4));
        b.refused(NONE, "a not 0 .. 3, b is not 0", Made::mixed, x -> x.part(2, 4, 1));
        b.refused(NONE, "a not 0 .. 3, no room", Made::brimful, x -> x.part(0, 4, 0));
        b.refused(NONE, "no NAME, no room", Made::brimful, x -> x.part(0, 0, 3));
        b.refused(NONE, "no what, no room", Made::brimful, x -> x.part(3, 0, 0));
        b.refused(BAD, "a is b, no room", Made::brimful, x -> x.part(1, 2, 2));
        b.refused(BAD, "b is not 0, no room", Made::brimful, x -> x.part(2, 0, 1));
    }

    private static PerhapsWas oneOf15() {
        PerhapsWas x = Made.with(1);
        Made.top(x, 15);
        return x;
    }

    private static void p21FirstTold(Bounds b) {
        b.sentence(21, "NONE: op not 0 .. 7; STATE: the pile has not as many; FULL.");
        b.refused(NONE, "no op, the pile is empty", PerhapsWas::new, x -> x.op(8));
        b.refused(NONE, "no op, 15 PARTS", BoundsOfRefusals::oneOf15, x -> x.op(-1));
        b.refused(STATE, "one side alone, of 15 PARTS", BoundsOfRefusals::oneOf15, x -> x.op(0));
        b.refused(FULL, "as many as it needs, of 15 PARTS", BoundsOfRefusals::oneOf15, x -> x.op(7));
    }

    private static PerhapsWas eight() {
        PerhapsWas x = new PerhapsWas();
        for (int c = 0; c < 8; c++) {
            Made.constant(x, c);
        }
        return x;
    }

    private static void p22FirstTold(Bounds b) {
        b.sentence(22, "STATE: there is not just one; FULL.");
        b.refused(STATE, "none on the pile, no room", BoundsOfRefusals::eight, x -> x.condition());
        b.refused(STATE, "six on the pile, no room", Made::brimful, x -> x.condition());
    }

    private static void p34FirstTold(Bounds b) {
        b.sentence(34, "BAD: not 0 .. 3; FULL: 24.");
        b.refused(BAD, "not 0 .. 3, no room", Made::brimful, x -> x.say(4));
        b.refused(BAD, "below 0, no room", Made::brimful, x -> x.say(-1));
    }

    private static PerhapsWas toldWrong() {
        PerhapsWas x = Made.mixed();
        Made.tell(x, "3");
        return x;
    }

    private static void p36FirstTold(Bounds b) {
        b.sentence(36, "NONE: never, or none such CONDITION; STATE: it is none.");
        b.refused(NONE, "none such CONDITION, THE ROW is none", BoundsOfRefusals::toldWrong, x -> x.passes(2));
        b.refused(STATE, "THE ROW is none", BoundsOfRefusals::toldWrong, x -> x.passes(0));
    }

    private static void firstTold(Bounds b) {
        b.sentence(0, "3 REFUSALS, of several the first one told:");
        b.is("own: NONE, BAD, FULL", Made.brimful().own(4, 3, 1, 2), NONE);
        b.is("own: BAD, FULL", Made.brimful().own(3, 2, 1, 2), BAD);
        b.is("own: FULL", Made.brimful().own(3, 2, 1, 1), FULL);
    }

    private static void none(Bounds b) {
        b.sentence(0, "NONE there is no such PROCESS, EVENT, LETTER, CONDITION, CUT (a number that is none), i, what;");
        b.refused(NONE, "no such PROCESS", Made::mixed, x -> x.own(3, 0, 1, 0));
        b.refused(NONE, "no such EVENT", Made::mixed, x -> x.clock(1, 2, 0));
        b.refused(NONE, "no such LETTER", Made::mixed, x -> x.take(2));
        b.refused(NONE, "no such CONDITION", Made::mixed, x -> x.many(2));
        b.refused(NONE, "no such CUT", Made::mixed, x -> x.possible(5));
        b.refused(NONE, "a number that is none", Made::mixed, x -> x.possible(-1));
        b.refused(NONE, "no such i", Made::mixed, x -> x.order(0, 6));
        b.refused(NONE, "no such what", Made::mixed, x -> x.is(0, 3));
    }

    private static void bad(Bounds b) {
        b.sentence(0, "BAD a number is not as told;");
        b.refused(BAD, "own", Made::mixed, x -> x.own(0, 0, 0, 2));
        b.refused(BAD, "send", Made::mixed, x -> x.send(1, 1));
        b.refused(BAD, "wait", Made::mixed, x -> x.wait(1, 1));
        b.refused(BAD, "cuts", Made::mixed, x -> x.cuts(-2));
        b.refused(BAD, "join", Made::mixed, x -> x.join(0, 0, 2));
        b.refused(BAD, "part", Made::mixed, x -> x.part(1, 1, 1));
        b.refused(BAD, "clear", Made::mixed, x -> x.clear(2));
        b.refused(BAD, "say", Made::mixed, x -> x.say(4));
    }

    private static void state(Bounds b) {
        b.sentence(0, "STATE as told;");
        b.refused(STATE, "take", Made::mixed, x -> x.take(1));
        b.refused(STATE, "undo", PerhapsWas::new, x -> x.undo());
        b.refused(STATE, "op", PerhapsWas::new, x -> x.op(0));
        b.refused(STATE, "condition", Made::mixed, x -> x.condition());
        b.refused(STATE, "passes", BoundsOfRefusals::toldWrong, x -> x.passes(1));
    }

    private static void full(Bounds b) {
        b.sentence(0, "FULL.");
        b.refused(FULL, "process", Made::brimful, x -> x.process());
        b.refused(FULL, "own", Made::brimful, x -> x.own(1, 0, 1, 0));
        b.refused(FULL, "send", Made::brimful, x -> x.send(1, 0));
        b.refused(FULL, "take", Made::brimful, x -> x.take(2));
        b.refused(FULL, "wait", Made::brimful, x -> x.wait(1, 0));
        b.refused(FULL, "number", Made::brimful, x -> x.number(1));
        b.refused(FULL, "part", Made::brimful, x -> x.part(0, 1, 1));
        b.refused(FULL, "op", BoundsOfRefusals::oneOf15, x -> x.op(7));
        b.refused(FULL, "condition", BoundsOfRefusals::eightAndOne, x -> x.condition());
        b.refused(FULL, "say", Made::brimful, x -> x.say(1));
    }

    private static PerhapsWas eightAndOne() {
        PerhapsWas x = eight();
        x.number(8);
        return x;
    }

    /** All refused calls at once, one behind another on the same object. */
    private static void changeNothing(Bounds b) {
        b.sentence(0, "They change nothing.");
        PerhapsWas mixed = Made.mixed();
        PerhapsWas brimful = Made.brimful();
        for (ToLongFunction<PerhapsWas> call : WRONG) {
            b.holds("refused", call.applyAsLong(mixed) < 0);
            b.holds("refused", call.applyAsLong(brimful) < 0);
        }
        b.holds("as ahead of them", Seen.of(mixed).equals(Seen.of(Made.mixed())));
        b.holds("as ahead of them, with no room", Seen.of(brimful).equals(Seen.of(Made.brimful())));
    }
}
