/** Promises 34 to 37 at their edges: a told order, and count. */
final class BoundsOfRow {
    private static final int NONE = PerhapsWas.NONE, BAD = PerhapsWas.BAD;
    private static final int STATE = PerhapsWas.STATE, FULL = PerhapsWas.FULL;
    private static final String ALL = "012301230123012301230123";

    private BoundsOfRow() {
    }

    static void all(Bounds b) {
        p34Say(b);
        p34Bad(b);
        p34Full(b);
        p35Order(b);
        p35NoEventLeft(b);
        p35NotAhead(b);
        p35FirstPlace(b);
        p35Missing(b);
        p36Passes(b);
        p36Stays(b);
        p36None(b);
        p36State(b);
        p37Count(b);
        p37AtMost(b);
        p37None(b);
    }

    /** 0: ADD, SEND; 1: ADD, TAKE. */
    private static PerhapsWas letterRun() {
        PerhapsWas x = Made.rows(1, 1);
        x.send(0, 1);
        x.take(0);
        return x;
    }

    private static int checked(PerhapsWas x, String row) {
        Made.tell(x, row);
        return x.check();
    }

    private static void p34Say(Bounds b) {
        b.sentence(34, "A PROCESS comes behind THE ROW: how many it has.");
        PerhapsWas x = new PerhapsWas();
        for (int k = 0; k < 24; k++) {
            b.is("say " + k + ", of a PROCESS that there is not", x.say(3 - k % 4), k + 1);
        }
        x.check();
        b.is("behind check()", x.say(0), 1);
        PerhapsWas y = letterRun();
        b.is("in the order in which they come", checked(y, "0011"), 100);
        b.is("the other way round", checked(y, "1100"), 1);
    }

    private static void p34Bad(Bounds b) {
        b.sentence(34, "BAD: not 0 .. 3;");
        for (int p : Bounds.outside(4)) {
            b.refused(BAD, "say(" + p + ")", Made::mixed, x -> x.say(p));
            b.refused(BAD, "say(" + p + ") on a new object", PerhapsWas::new, x -> x.say(p));
        }
    }

    private static void p34Full(Bounds b) {
        b.sentence(34, "FULL: 24.");
        for (int p = 0; p < 4; p++) {
            int told = p;
            b.refused(FULL, "a 25th, " + p, Made::brimful, x -> x.say(told));
        }
        PerhapsWas x = new PerhapsWas();
        Made.tell(x, ALL.substring(1));
        b.is("a 24th", x.say(0), 24);
        b.is("a 25th", x.say(0), FULL);
        x.check();
        b.is("check() makes room", x.say(0), 1);
    }

    private static void p35Order(Bounds b) {
        b.sentence(35, "THE ROW, which is empty then, is an ORDER: 100;");
        b.is("of no processes", new PerhapsWas().check(), 100);
        b.is("of no events", Made.with(4).check(), 100);
        b.is("of one event", checked(Made.rows(0, 0, 0, 1), "3"), 100);
        PerhapsWas full = Made.full();
        b.is("of all", checked(full, ALL), 100);
        b.is("it is empty then", full.count(6), 0);
        b.is("the last ORDER of all", checked(full, "333333222222111111000000"), 100);
        PerhapsWas x = letterRun();
        String[] orders = {"0011", "0101", "1001"};
        for (String order : orders) {
            b.is(order, checked(x, order), 100);
            b.is("it is empty then", x.count(6), 0);
        }
        Made.tell(x, "01");
        x.say(0);
        x.undo();
        b.is("behind undo(), as the events are now", x.check(), 100);
    }

    private static void p35NoEventLeft(Bounds b) {
        b.sentence(35, "else the first place, from 0 on, at which no EVENT of that PROCESS is left,");
        b.is("no PROCESS", checked(new PerhapsWas(), "0"), 0);
        b.is("no events", checked(Made.with(4), "3"), 0);
        PerhapsWas x = letterRun();
        b.is("a third of 0", checked(x, "000"), 2);
        b.is("one too many behind an ORDER", checked(x, "00110"), 4);
        b.is("a PROCESS that there is not behind an ORDER", checked(x, "00113"), 4);
        PerhapsWas full = Made.full();
        b.is("a seventh at the last place", checked(full, ALL.substring(0, 23) + "0"), 23);
        b.is("a seventh", checked(full, "0000000"), 6);
        PerhapsWas y = Made.rows(6, 6, 6, 5);
        b.is("one that is not there at the last place", checked(y, ALL), 23);
        b.is("it is empty then", y.count(6), 0);
    }

    private static void p35NotAhead(Bounds b) {
        b.sentence(35, "or one that is AHEAD of it stands not ahead of it;");
        PerhapsWas x = letterRun();
        b.is("the TAKE, its SEND missing", checked(x, "011"), 2);
        b.is("the TAKE, all of 0 missing", checked(x, "11"), 1);
        b.is("the TAKE, its SEND behind", checked(x, "0110"), 2);
        PerhapsWas y = Made.rows(6, 0);
        y.wait(1, 0);
        b.is("the WAIT at the first place", checked(y, "1000000"), 0);
        b.is("the WAIT at the last place but one", checked(y, "0000010"), 5);
        b.is("the WAIT at the last place", checked(y, "0000001"), 100);
    }

    private static void p35FirstPlace(Bounds b) {
        b.sentence(35, "the first place, from 0 on,");
        PerhapsWas x = letterRun();
        b.is("two wrong places", checked(x, "1130"), 1);
        b.is("two wrong places of the other kind", checked(x, "0300"), 1);
        b.is("all wrong", checked(x, "3333"), 0);
        b.is("it is empty then", x.count(6), 0);
    }

    private static void p35Missing(Bounds b) {
        b.sentence(35, "without such a place how many THE ROW has (EVENTS are missing).");
        PerhapsWas x = letterRun();
        b.is("nothing told", x.check(), 0);
        b.is("one told", checked(x, "1"), 1);
        b.is("one missing", checked(x, "001"), 3);
        b.is("it is empty then", x.count(6), 0);
        b.is("23 of 24", checked(Made.full(), ALL.substring(1)), 23);
    }

    private static void p36Passes(Bounds b) {
        b.sentence(36, "THE ROW (which stays) is a beginning of an ORDER, or one: behind how many of its EVENTS the CONDITION HOLDS first;");
        PerhapsWas x = letterRun();
        int always = Made.constant(x, -1);
        int last = Made.conditionAt(x, 2, 2);
        int twice = Made.conditionAtTwo(x, 1, 1, 2, 2);
        b.is("behind none, nothing told", x.passes(always), 0);
        Made.tell(x, "010");
        b.is("behind none", x.passes(always), 0);
        b.is("a beginning", x.passes(twice), 2);
        b.is("not yet", x.passes(last), NONE);
        x.say(1);
        b.is("an ORDER, behind all", x.passes(last), 4);
        b.is("the first of two", x.passes(twice), 2);
        PerhapsWas full = Made.full();
        Made.tell(full, "111111000000222222333333");
        int six = Made.ofPart(full, 2, 3, 0);
        b.is("behind the nineteenth", full.passes(six), 19);
        full.part(2, 3, 0);
        full.number(6);
        full.op(4);
        b.is("behind all that there can be", full.passes(full.condition()), 24);
        PerhapsWas empty = new PerhapsWas();
        b.is("of no events", empty.passes(Made.constant(empty, 1)), 0);
    }

    private static void p36Stays(Bounds b) {
        b.sentence(36, "THE ROW (which stays)");
        PerhapsWas x = letterRun();
        int c = Made.constant(x, 1);
        Made.tell(x, "0011");
        x.passes(c);
        b.is("it has as many", x.count(6), 4);
        b.is("and is the same", x.check(), 100);
        Made.tell(x, "111");
        x.passes(c);
        b.is("one that is none stays, too", x.count(6), 3);
        b.is("and is the same", x.check(), 1);
    }

    private static void p36None(Bounds b) {
        b.sentence(36, "NONE: never, or none such CONDITION;");
        for (int c : Bounds.outside(2)) {
            b.refused(NONE, "passes(" + c + ")", Made::mixed, x -> x.passes(c));
        }
        for (int c : Bounds.outside(8)) {
            b.refused(NONE, "passes(" + c + ") of eight", Made::brimful, x -> x.passes(c));
        }
        b.refused(NONE, "of no CONDITIONS", PerhapsWas::new, x -> x.passes(0));
        b.refused(NONE, "never", Made::mixed, x -> x.passes(1));
        PerhapsWas x = letterRun();
        int apart = Made.conditionAt(x, 0, 1);
        Made.tell(x, "0011");
        b.is("at a CUT of other ORDERS alone", x.passes(apart), NONE);
        PerhapsWas empty = new PerhapsWas();
        b.is("of no events", empty.passes(Made.constant(empty, 0)), NONE);
    }

    private static PerhapsWas toldWrong(String row) {
        PerhapsWas x = letterRun();
        Made.constant(x, 1);
        Made.constant(x, 0);
        Made.tell(x, row);
        return x;
    }

    private static void p36State(Bounds b) {
        b.sentence(36, "STATE: it is none.");
        String[] rows = {"3", "11", "000", "0110", "00112", "00110"};
        for (String row : rows) {
            b.refused(STATE, row + ", though it held at once", () -> toldWrong(row), x -> x.passes(0));
            b.refused(STATE, row + ", though it never would", () -> toldWrong(row), x -> x.passes(1));
        }
        PerhapsWas empty = new PerhapsWas();
        Made.constant(empty, 1);
        empty.say(0);
        b.is("of no processes", empty.passes(0), STATE);
        PerhapsWas x = toldWrong("0011");
        b.is("an ORDER", x.passes(0), 0);
        x.undo();
        b.is("it is none behind undo()", x.passes(0), STATE);
    }

    private static void p37Count(Bounds b) {
        b.sentence(37, "Of all what 0 PROCESSES, 1 EVENTS, 2 LETTERS, 3 LETTERS that are not taken, 4 CONDITIONS, "
                + "5 those on the pile, 6 of THE ROW.");
        PerhapsWas x = Made.mixed();
        Made.tell(x, "33");
        x.op(7);
        x.number(3);
        int[] want = {3, 6, 2, 1, 2, 3, 4};
        for (int what = 0; what < 7; what++) {
            b.is("count(" + what + ")", x.count(what), want[what]);
            b.is("of a new object", new PerhapsWas().count(what), 0);
        }
        PerhapsWas y = Made.with(2);
        y.send(0, 1);
        y.send(1, 0);
        y.take(0);
        y.take(1);
        b.is("all are taken", y.count(3), 0);
        b.is("they are still there", y.count(2), 2);
    }

    private static void p37AtMost(Bounds b) {
        b.sentence(37, "Of all what 0 PROCESSES, 1 EVENTS, 2 LETTERS, 3 LETTERS that are not taken, 4 CONDITIONS, "
                + "5 those on the pile, 6 of THE ROW.");
        PerhapsWas x = Made.brimful();
        int[] want = {4, 24, 8, 5, 8, 6, 24};
        for (int what = 0; what < 7; what++) {
            b.is("count(" + what + ")", x.count(what), want[what]);
        }
        PerhapsWas y = Made.with(4);
        for (int l = 0; l < 24; l++) {
            y.send(l % 4, (l + 1) % 4);
        }
        b.is("the most LETTERS", y.count(2), 24);
        b.is("of which none is taken", y.count(3), 24);
    }

    private static void p37None(Bounds b) {
        b.sentence(37, "NONE.");
        for (int what : Bounds.outside(7)) {
            b.refused(NONE, "count(" + what + ")", Made::mixed, x -> x.count(what));
            b.refused(NONE, "count(" + what + ") of a new object", PerhapsWas::new, x -> x.count(what));
        }
    }
}
