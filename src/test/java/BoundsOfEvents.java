/** Promises 1 to 11 at their edges: a new object, and events. */
final class BoundsOfEvents {
    private static final int NONE = PerhapsWas.NONE, BAD = PerhapsWas.BAD;
    private static final int STATE = PerhapsWas.STATE, FULL = PerhapsWas.FULL;
    private static final int LOW = Bounds.LOW, HIGH = Bounds.HIGH;

    private BoundsOfEvents() {
    }

    static void all(Bounds b) {
        p01NewObject(b);
        p02Process(b);
        p02Full(b);
        p03Own(b);
        p03None(b);
        p03NoName(b);
        p03Bad(b);
        p03Full(b);
        p04Send(b);
        p04None(b);
        p04Bad(b);
        p04Full(b);
        p05Take(b);
        p05None(b);
        p05State(b);
        p05Full(b);
        p06Wait(b);
        p06None(b);
        p06Bad(b);
        p06Full(b);
        p07Undo(b);
        p07UndoOfLetters(b);
        p07UndoOfAll(b);
        p07State(b);
        p08Kind(b);
        p08About(b);
        p08WhichOfAll(b);
        p08None(b);
        p09Letter(b);
        p09Took(b);
        p09None(b);
        p10Ahead(b);
        p10AheadOfThis(b);
        p10Beside(b);
        p10One(b);
        p10None(b);
        p11Clock(b);
        p11None(b);
    }

    // ---- promises 1 and 2

    private static void p01NewObject(Bounds b) {
        b.sentence(1, "No PROCESSES, no CONDITIONS.");
        PerhapsWas other = Made.brimful();
        PerhapsWas x = new PerhapsWas();
        for (int what = 0; what <= 6; what++) {
            b.is("count(" + what + ")", x.count(what), 0);
        }
        b.is("own(0, 0, 0, 0)", x.own(0, 0, 0, 0), NONE);
        b.is("send(0, 1)", x.send(0, 1), NONE);
        b.is("wait(0, 1)", x.wait(0, 1), NONE);
        b.is("take(0)", x.take(0), NONE);
        b.is("undo()", x.undo(), STATE);
        b.is("event(0, 0, 0)", x.event(0, 0, 0), NONE);
        b.is("least(0, 0)", x.least(0, 0), NONE);
        b.is("the CUT without events", x.possible(0), 1);
        b.is("no other CUT", x.cuts(-1), 1);
        b.is("no other number", x.possible(1), NONE);
        b.is("status()", x.status(), 0);
        b.is("may(0)", x.may(0), NONE);
        b.is("condition()", x.condition(), STATE);
        b.is("check()", x.check(), 100);
        b.is("another one keeps its own", other.count(1), 24);
    }

    private static void p02Process(Bounds b) {
        b.sentence(2, "A PROCESS more: its number.");
        PerhapsWas x = new PerhapsWas();
        for (int p = 0; p < 4; p++) {
            b.is("process()", x.process(), p);
            b.is("so many", x.count(0), p + 1);
            b.is("without events", x.least(p, 1), NONE);
            b.is("it takes events", x.own(p, 0, 1, 0), 1);
        }
    }

    private static void p02Full(Bounds b) {
        b.sentence(2, "FULL.");
        b.refused(FULL, "a fifth", () -> Made.with(4), x -> x.process());
        b.refused(FULL, "a fifth, beside as much of all as there can be", Made::brimful, x -> x.process());
        PerhapsWas x = Made.rows(0, 0, 0, 1);
        x.undo();
        b.is("undo() makes no room", x.process(), FULL);
        b.is("nor does a refusal", x.process(), FULL);
    }

    // ---- promise 3

    private static void p03Own(Bounds b) {
        b.sentence(3, "OWN (add 1: ADD): how many EVENTS the PROCESS has.");
        for (int p = 0; p < 4; p++) {
            PerhapsWas x = Made.rows(2, 2, 2, 2);
            for (int i = 2; i < 6; i++) {
                b.is("own by " + p, x.own(p, i % 3, i % 2 == 0 ? LOW : HIGH, i % 2), i + 1);
                b.is("add 0 is OWN, 1 is ADD", x.event(p, i, 0), i % 2);
            }
        }
    }

    private static void p03None(Bounds b) {
        b.sentence(3, "NONE (a NAME that there is not, too);");
        for (int n = 0; n <= 4; n++) {
            int processes = n;
            for (int p : Bounds.outside(n)) {
                b.refused(NONE, "own by " + p + " of " + n, () -> Made.with(processes), x -> x.own(p, 0, 1, 0));
            }
        }
    }

    private static void p03NoName(Bounds b) {
        b.sentence(3, "(a NAME that there is not, too)");
        for (int name : Bounds.outside(3)) {
            b.refused(NONE, "own of NAME " + name, Made::mixed, x -> x.own(0, name, 1, 0));
            b.refused(NONE, "ADD to NAME " + name, Made::mixed, x -> x.own(2, name, 1, 1));
        }
        b.is("the last NAME that there is", Made.with(1).own(0, 2, 1, 0), 1);
    }

    private static void p03Bad(Bounds b) {
        b.sentence(3, "BAD: add not 0, 1;");
        for (int add : Bounds.outside(2)) {
            b.refused(BAD, "own, add " + add, Made::mixed, x -> x.own(0, 0, 1, add));
        }
    }

    private static void p03Full(Bounds b) {
        b.sentence(3, "FULL.");
        for (int p = 0; p < 4; p++) {
            int of = p;
            b.refused(FULL, "a seventh OWN of " + p, Made::brimful, x -> x.own(of, 0, 1, 0));
            b.refused(FULL, "a seventh ADD of " + p, Made::brimful, x -> x.own(of, 2, 1, 1));
        }
        PerhapsWas x = Made.rows(6, 5);
        b.is("another one has room", x.own(1, 0, 1, 0), 6);
        x.undo();
        b.is("none is free for it", x.own(0, 0, 1, 0), FULL);
        b.is("undo() makes room", x.own(1, 0, 1, 0), 6);
        b.is("for one", x.own(1, 0, 1, 0), FULL);
    }

    // ---- promise 4

    private static void p04Send(Bounds b) {
        b.sentence(4, "SEND: the LETTER's number.");
        PerhapsWas x = Made.with(4);
        for (int l = 0; l < 24; l++) {
            b.is("send " + l, x.send(l / 6, (l / 6 + 3) % 4), l);
        }
        x.undo();
        b.is("a number is free again", x.send(3, 0), 23);
    }

    private static void p04None(Bounds b) {
        b.sentence(4, "NONE;");
        for (int n = 0; n <= 4; n++) {
            int processes = n;
            for (int p : Bounds.outside(n)) {
                b.refused(NONE, "send from " + p + " of " + n, () -> Made.with(processes), x -> x.send(p, 0));
                b.refused(NONE, "send to " + p + " of " + n, () -> Made.with(processes), x -> x.send(0, p));
            }
        }
    }

    private static void p04Bad(Bounds b) {
        b.sentence(4, "BAD: q is p;");
        for (int p = 0; p < 4; p++) {
            int of = p;
            b.refused(BAD, "send from and to " + p, () -> Made.rows(1, 1, 1, 1), x -> x.send(of, of));
        }
    }

    private static void p04Full(Bounds b) {
        b.sentence(4, "FULL.");
        for (int p = 0; p < 4; p++) {
            int of = p;
            b.refused(FULL, "a seventh of " + p, Made::brimful, x -> x.send(of, (of + 1) % 4));
        }
        PerhapsWas x = Made.rows(6, 5);
        b.is("to one that has six", x.send(1, 0), 0);
        b.is("from one that now has six", x.send(1, 0), FULL);
        b.is("no LETTER of it", x.count(2), 1);
    }

    // ---- promise 5

    private static void p05Take(Bounds b) {
        b.sentence(5, "TAKE by the PROCESS that it went to: how many EVENTS that has.");
        PerhapsWas x = Made.rows(0, 0, 3);
        for (int l = 0; l < 6; l++) {
            x.send(0, 1 + l / 3);
        }
        for (int l = 0; l < 6; l++) {
            b.is("take " + l, x.take(l), l + 1);
            b.is("by " + (1 + l / 3), x.event(1 + l / 3, l, 0), 3);
        }
    }

    private static void p05None(Bounds b) {
        b.sentence(5, "NONE;");
        for (int n = 0; n <= 6; n += 3) {
            int letters = n;
            for (int l : Bounds.outside(n)) {
                b.refused(NONE, "take of " + l + " of " + n, () -> sent(letters), x -> x.take(l));
            }
        }
        PerhapsWas x = sent(2);
        x.undo();
        b.is("of one that is no more", x.take(1), NONE);
        b.is("of the one below", x.take(0), 1);
    }

    /** So many letters from 0 to 1. */
    private static PerhapsWas sent(int letters) {
        PerhapsWas x = Made.with(2);
        for (int l = 0; l < letters; l++) {
            x.send(0, 1);
        }
        return x;
    }

    private static PerhapsWas sentAndTaken() {
        PerhapsWas x = sent(3);
        x.take(0);
        x.take(2);
        return x;
    }

    private static void p05State(Bounds b) {
        b.sentence(5, "STATE: it was taken;");
        b.refused(STATE, "the first", BoundsOfEvents::sentAndTaken, x -> x.take(0));
        b.refused(STATE, "the last", BoundsOfEvents::sentAndTaken, x -> x.take(2));
        PerhapsWas x = sentAndTaken();
        b.is("the one between was not", x.take(1), 3);
        b.is("now it was", x.take(1), STATE);
        x.undo();
        b.is("its TAKE was taken back", x.take(1), 3);
    }

    private static void p05Full(Bounds b) {
        b.sentence(5, "FULL.");
        b.refused(FULL, "a seventh", () -> sentTo(6), x -> x.take(0));
        b.is("a sixth", sentTo(5).take(0), 6);
        PerhapsWas x = sentTo(6);
        x.undo();
        b.is("undo() makes room", x.take(0), 6);
        PerhapsWas y = sent(6);
        b.is("the one that sent has six", y.take(0), 1);
    }

    /** A letter to 1, and so many events of it. */
    private static PerhapsWas sentTo(int events) {
        PerhapsWas x = sent(1);
        for (int i = 0; i < events; i++) {
            x.own(1, 0, 1, 0);
        }
        return x;
    }

    // ---- promise 6

    private static void p06Wait(Bounds b) {
        b.sentence(6, "WAIT: likewise.");
        PerhapsWas x = Made.rows(0, 6);
        for (int i = 0; i < 6; i++) {
            b.is("wait for one that has six", x.wait(0, 1), i + 1);
        }
        PerhapsWas y = Made.rows(0, 0, 3);
        b.is("wait for one without events", y.wait(2, 0), 4);
        b.is("none is ahead but its own", y.least(2, 4), 4 * 49);
    }

    private static void p06None(Bounds b) {
        b.sentence(6, "NONE;");
        for (int n = 0; n <= 4; n++) {
            int processes = n;
            for (int p : Bounds.outside(n)) {
                b.refused(NONE, "wait of " + p + " of " + n, () -> Made.with(processes), x -> x.wait(p, 0));
                b.refused(NONE, "wait for " + p + " of " + n, () -> Made.with(processes), x -> x.wait(0, p));
            }
        }
    }

    private static void p06Bad(Bounds b) {
        b.sentence(6, "BAD: q is p;");
        for (int p = 0; p < 4; p++) {
            int of = p;
            b.refused(BAD, "wait of and for " + p, () -> Made.rows(1, 1, 1, 1), x -> x.wait(of, of));
        }
    }

    private static void p06Full(Bounds b) {
        b.sentence(6, "FULL.");
        for (int p = 0; p < 4; p++) {
            int of = p;
            b.refused(FULL, "a seventh of " + p, Made::brimful, x -> x.wait(of, (of + 1) % 4));
        }
        PerhapsWas x = Made.rows(6, 5);
        b.is("a sixth, for one that has six", x.wait(1, 0), 6);
        b.is("a seventh", x.wait(1, 0), FULL);
    }

    // ---- promise 7

    private static void p07Undo(Bounds b) {
        b.sentence(7, "The EVENT that came latest of all is taken back (its LETTER is no more, or is not taken): its PROCESS.");
        PerhapsWas x = Made.with(4);
        x.own(3, 1, 5, 0);
        x.own(0, 1, 7, 0);
        x.own(3, 1, 6, 1);
        x.own(3, 1, LOW, 0);
        x.wait(1, 3);
        b.is("a WAIT", x.undo(), 1);
        b.is("nothing is ahead by it", x.own(1, 0, 1, 0), 1);
        b.is("clock", x.clock(1, 0, 3), 0);
        b.is("an OWN of 1", x.undo(), 1);
        b.is("an OWN of 3", x.undo(), 3);
        b.is("its value", Made.nameBehindAll(x, 3, 1), 11);
        b.is("an ADD of 3", x.undo(), 3);
        b.is("its value", Made.nameBehindAll(x, 3, 1), 5);
        b.is("the latest of all, not of 3", x.undo(), 0);
        b.is("its value", Made.nameBehindAll(x, 0, 1), 0);
        b.is("the first of all", x.undo(), 3);
        b.is("its value", Made.nameBehindAll(x, 3, 1), 0);
        b.is("none is left", x.count(1), 0);
        b.is("the processes stay", x.count(0), 4);
    }

    private static void p07UndoOfLetters(Bounds b) {
        b.sentence(7, "(its LETTER is no more, or is not taken)");
        PerhapsWas x = Made.with(3);
        x.send(0, 1);
        x.send(2, 1);
        x.take(0);
        b.is("a TAKE", x.undo(), 1);
        b.is("its LETTER is not taken", x.letter(0, 3), NONE);
        b.is("two are not taken", x.count(3), 2);
        b.is("it is still there", x.count(2), 2);
        b.is("a SEND", x.undo(), 2);
        b.is("its LETTER is no more", x.letter(1, 0), NONE);
        b.is("one is left", x.count(2), 1);
        b.is("one is not taken", x.count(3), 1);
        b.is("the one below is still there", x.letter(0, 0), 0);
        b.is("its number comes again", x.send(1, 2), 1);
        b.is("with what is new", x.letter(1, 0), 1);
        b.is("and is not taken", x.letter(1, 3), NONE);
        int underWay = Made.ofPart(x, 1, 1, 2);
        b.is("it is under way", x.value(underWay, 7 + 1), 1);
        x.undo();
        x.own(1, 0, 1, 0);
        b.is("no more", x.value(underWay, 7 + 1), 0);
    }

    private static void p07UndoOfAll(Bounds b) {
        b.sentence(7, "The EVENT that came latest of all is taken back");
        PerhapsWas x = Made.with(4);
        for (int k = 0; k < 24; k++) {
            x.own((k * 3 + k / 4) % 4, 0, k, 1);
        }
        b.is("all that there can be", x.count(1), 24);
        for (int k = 23; k >= 0; k--) {
            b.is("undo of " + k, x.undo(), (k * 3 + k / 4) % 4);
            b.is("so many are left", x.count(1), k);
        }
        b.is("none", x.undo(), STATE);
        b.is("the first again", x.own(2, 0, 1, 0), 1);
        b.is("first of all", x.event(2, 0, 2), 0);
    }

    private static void p07State(Bounds b) {
        b.sentence(7, "STATE: there is none.");
        b.refused(STATE, "of a new object", PerhapsWas::new, x -> x.undo());
        b.refused(STATE, "of processes without events", () -> Made.with(4), x -> x.undo());
        b.refused(STATE, "of one that was taken back", BoundsOfEvents::takenBack, x -> x.undo());
    }

    private static PerhapsWas takenBack() {
        PerhapsWas x = Made.rows(1, 0);
        x.undo();
        return x;
    }

    // ---- promise 8

    private static void p08Kind(Bounds b) {
        b.sentence(8, "Of an EVENT what 0: 0 OWN, 1 ADD, 2 SEND, 3 TAKE, 4 WAIT;");
        PerhapsWas x = Made.allKinds();
        b.is("OWN", x.event(0, 0, 0), 0);
        b.is("ADD", x.event(0, 1, 0), 1);
        b.is("SEND", x.event(0, 2, 0), 2);
        b.is("TAKE", x.event(1, 1, 0), 3);
        b.is("WAIT", x.event(0, 3, 0), 4);
    }

    private static void p08About(Bounds b) {
        b.sentence(8, "1 the NAME, LETTER, or PROCESS that it is about;");
        for (int name = 0; name < 3; name++) {
            PerhapsWas x = Made.with(1);
            x.own(0, name, 9, name % 2);
            b.is("the NAME", x.event(0, 0, 1), name);
        }
        PerhapsWas x = Made.with(4);
        for (int l = 0; l < 10; l++) {
            x.send(l / 5, 3);
        }
        x.take(9);
        x.take(0);
        b.is("the first LETTER, sent", x.event(0, 0, 1), 0);
        b.is("the last LETTER, sent", x.event(1, 4, 1), 9);
        b.is("the last LETTER, taken", x.event(3, 0, 1), 9);
        b.is("the first LETTER, taken", x.event(3, 1, 1), 0);
        for (int q = 0; q < 3; q++) {
            x.wait(3, q);
            b.is("the PROCESS", x.event(3, 2 + q, 1), q);
        }
    }

    private static void p08WhichOfAll(Bounds b) {
        b.sentence(8, "2 which one it is of all, as they came, from 0 on.");
        PerhapsWas x = Made.with(4);
        for (int k = 0; k < 24; k++) {
            x.own(3 - k % 4, 0, 1, 0);
            b.is("of all", x.event(3 - k % 4, k / 4, 2), k);
        }
        b.is("the first stays so", x.event(3, 0, 2), 0);
        x.undo();
        x.undo();
        x.own(1, 0, 1, 0);
        b.is("behind undo()", x.event(1, 5, 2), 22);
    }

    private static void p08None(Bounds b) {
        b.sentence(8, "NONE.");
        PerhapsWas x = Made.allKinds();
        int[] had = {4, 2, 0};
        for (int p = 0; p < 3; p++) {
            for (int i : Bounds.outside(had[p])) {
                b.is("event " + i + " of " + p, x.event(p, i, 0), NONE);
            }
        }
        for (int p : Bounds.outside(3)) {
            b.is("of process " + p, x.event(p, 0, 0), NONE);
        }
        for (int what : Bounds.outside(3)) {
            b.is("what " + what, x.event(0, 0, what), NONE);
        }
        b.is("event 6 is none of the next process's", Made.full().event(0, 6, 0), NONE);
        x.undo();
        b.is("one that was taken back", x.event(0, 3, 0), NONE);
    }

    // ---- promise 9

    private static void p09Letter(Bounds b) {
        b.sentence(9, "Of a LETTER what 0 from, 1 to, 2 the EVENT that sent,");
        PerhapsWas x = Made.rows(5, 0, 0, 0);
        x.send(0, 3);
        x.send(3, 0);
        int[][] want = {{0, 3, 5}, {3, 0, 0}};
        for (int l = 0; l < 2; l++) {
            for (int what = 0; what < 3; what++) {
                b.is("letter(" + l + ", " + what + ")", x.letter(l, what), want[l][what]);
            }
        }
    }

    private static void p09Took(Bounds b) {
        b.sentence(9, "3 that took it (NONE: none).");
        PerhapsWas x = Made.rows(0, 5, 0);
        x.send(0, 1);
        x.send(0, 2);
        b.is("none", x.letter(0, 3), NONE);
        x.take(0);
        x.take(1);
        b.is("the last that there can be", x.letter(0, 3), 5);
        b.is("the first", x.letter(1, 3), 0);
        x.undo();
        b.is("none again", x.letter(1, 3), NONE);
        b.is("the other one's stays", x.letter(0, 3), 5);
    }

    private static void p09None(Bounds b) {
        b.sentence(9, "NONE.");
        PerhapsWas x = Made.allKinds();
        for (int what = 0; what < 4; what++) {
            for (int l : Bounds.outside(2)) {
                b.is("letter(" + l + ", " + what + ")", x.letter(l, what), NONE);
            }
        }
        for (int what : Bounds.outside(4)) {
            b.is("what " + what, x.letter(0, what), NONE);
        }
        b.is("without letters", Made.full().letter(0, 0), NONE);
    }

    // ---- promises 10 and 11

    private static void p10Ahead(Bounds b) {
        b.sentence(10, "1: EVENT i of p is AHEAD of EVENT j of q;");
        PerhapsWas x = Made.rows(6, 5);
        x.wait(1, 0);
        b.is("the last of 0 and the last of 1", x.ahead(0, 5, 1, 5), 1);
        b.is("the first of 0 and the last of 1", x.ahead(0, 0, 1, 5), 1);
        b.is("the first and the last of a row", x.ahead(0, 0, 0, 5), 1);
        b.is("two next to one another", x.ahead(0, 4, 0, 5), 1);
    }

    private static void p10AheadOfThis(Bounds b) {
        b.sentence(10, "2: that is AHEAD of this;");
        PerhapsWas x = Made.rows(6, 5);
        x.wait(1, 0);
        b.is("the last of 1 and the last of 0", x.ahead(1, 5, 0, 5), 2);
        b.is("the last of 1 and the first of 0", x.ahead(1, 5, 0, 0), 2);
        b.is("the last and the first of a row", x.ahead(0, 5, 0, 0), 2);
        b.is("two next to one another", x.ahead(0, 5, 0, 4), 2);
    }

    private static void p10Beside(Bounds b) {
        b.sentence(10, "3: they are BESIDE;");
        PerhapsWas x = Made.rows(6, 5);
        x.wait(1, 0);
        b.is("the one ahead of the WAIT", x.ahead(0, 5, 1, 4), 3);
        b.is("the other way", x.ahead(1, 4, 0, 5), 3);
        b.is("two firsts", x.ahead(0, 0, 1, 0), 3);
    }

    private static void p10One(Bounds b) {
        b.sentence(10, "0: they are one.");
        PerhapsWas x = Made.full();
        for (int p = 0; p < 4; p++) {
            b.is("the first of " + p, x.ahead(p, 0, p, 0), 0);
            b.is("the last of " + p, x.ahead(p, 5, p, 5), 0);
        }
    }

    private static void p10None(Bounds b) {
        b.sentence(10, "NONE.");
        PerhapsWas x = Made.rows(6, 2, 0);
        for (int p : Bounds.outside(3)) {
            b.is("p " + p, x.ahead(p, 0, 0, 0), NONE);
            b.is("q " + p, x.ahead(0, 0, p, 0), NONE);
            b.is("p and q " + p, x.ahead(p, 0, p, 0), NONE);
        }
        int[] had = {6, 2, 0};
        for (int p = 0; p < 3; p++) {
            for (int i : Bounds.outside(had[p])) {
                b.is("i " + i + " of " + p, x.ahead(p, i, 0, 0), NONE);
                b.is("j " + i + " of " + p, x.ahead(0, 0, p, i), NONE);
                b.is("i and j " + i + " of " + p, x.ahead(p, i, p, i), NONE);
            }
        }
    }

    private static void p11Clock(Bounds b) {
        b.sentence(11, "The CLOCK of an EVENT for a PROCESS.");
        PerhapsWas x = Made.rows(6, 0, 0, 5);
        x.wait(3, 0);
        x.wait(1, 3);
        int[] last = {6, 0, 0, 6};
        int[] through = {6, 1, 0, 6};
        for (int q = 0; q < 4; q++) {
            b.is("the last of 3 for " + q, x.clock(3, 5, q), last[q]);
            b.is("the first of 3 for " + q, x.clock(3, 0, q), q == 3 ? 1 : 0);
            b.is("through another one for " + q, x.clock(1, 0, q), through[q]);
        }
    }

    private static void p11None(Bounds b) {
        b.sentence(11, "NONE.");
        PerhapsWas x = Made.rows(6, 2, 0);
        for (int p : Bounds.outside(3)) {
            b.is("of process " + p, x.clock(p, 0, 0), NONE);
            b.is("for process " + p, x.clock(0, 0, p), NONE);
        }
        int[] had = {6, 2, 0};
        for (int p = 0; p < 3; p++) {
            for (int i : Bounds.outside(had[p])) {
                b.is("event " + i + " of " + p, x.clock(p, i, 0), NONE);
            }
        }
    }
}
