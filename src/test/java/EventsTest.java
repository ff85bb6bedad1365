/** Promises 1 to 11: a new object, and events. */
public final class EventsTest {
    private static final int NONE = PerhapsWas.NONE, BAD = PerhapsWas.BAD;
    private static final int STATE = PerhapsWas.STATE, FULL = PerhapsWas.FULL;
    private static final int LOW = Integer.MIN_VALUE, HIGH = Integer.MAX_VALUE;
    private static final Due due = new Due("EventsTest");

    public static void main(String[] args) {
        constants();
        newObject();
        process();
        own();
        ownsValues();
        send();
        take();
        waiting();
        undo();
        undoneClocksAndValues();
        event();
        letter();
        ahead();
        clock();
        due.end();
    }

    private static void constants() {
        due.is("NONE", NONE, -1);
        due.is("BAD", BAD, -2);
        due.is("STATE", STATE, -3);
        due.is("FULL", FULL, -4);
    }

    private static void newObject() {
        PerhapsWas x = new PerhapsWas();
        for (int what = 0; what <= 6; what++) {
            due.is("new: count(" + what + ")", x.count(what), 0);
        }
        due.is("new: status()", x.status(), 0);
        due.is("new: cuts(-1)", x.cuts(-1), 1);
        due.is("new: possible(0)", x.possible(0), 1);
        due.is("new: orders()", x.orders(), 1);
        due.is("new: order(0, 0)", x.order(0, 0), NONE);
        due.is("new: undo()", x.undo(), STATE);
        due.is("new: check()", x.check(), 100);
        due.is("new: may(0)", x.may(0), NONE);
    }

    private static void process() {
        PerhapsWas x = new PerhapsWas();
        for (int p = 0; p < 4; p++) {
            due.is("process()", x.process(), p);
            due.is("count(0)", x.count(0), p + 1);
        }
        due.is("fifth process()", x.process(), FULL);
        due.is("count(0) behind FULL", x.count(0), 4);
    }

    private static void own() {
        PerhapsWas x = Made.with(1);
        due.is("own of no process", x.own(1, 0, 1, 0), NONE);
        due.is("own of process -1", x.own(-1, 0, 1, 0), NONE);
        due.is("own of process LOW", x.own(LOW, 0, 1, 0), NONE);
        due.is("own of process HIGH", x.own(HIGH, 0, 1, 0), NONE);
        due.is("own of name 3", x.own(0, 3, 1, 0), NONE);
        due.is("own of name -1", x.own(0, -1, 1, 0), NONE);
        due.is("own, NONE ahead of BAD", x.own(0, 3, 1, 2), NONE);
        due.is("own, add 2", x.own(0, 0, 1, 2), BAD);
        due.is("own, add -1", x.own(0, 0, 1, -1), BAD);
        due.is("refusals change nothing", x.count(1), 0);
        for (int i = 0; i < 6; i++) {
            due.is("own " + i, x.own(0, i % 3, i, i % 2), i + 1);
        }
        due.is("seventh own", x.own(0, 0, 1, 0), FULL);
        due.is("own, NONE ahead of FULL", x.own(0, 3, 1, 0), NONE);
        due.is("own, BAD ahead of FULL", x.own(0, 0, 1, 2), BAD);
        due.is("six events", x.count(1), 6);
    }

    private static void ownsValues() {
        PerhapsWas x = Made.with(2);
        x.part(0, 0, 1);
        x.condition();
        x.own(0, 1, HIGH, 0);
        x.own(0, 1, 2, 1);
        x.own(0, 0, 9, 0);
        x.own(0, 1, -5, 0);
        x.own(1, 1, 77, 0);
        due.is("at first", x.value(0, 0), 0);
        due.is("OWN", x.value(0, 1), HIGH);
        due.is("ADD wraps", x.value(0, 2), LOW + 1);
        due.is("another name", x.value(0, 3), LOW + 1);
        due.is("OWN again", x.value(0, 4), -5);
        due.is("another process", x.value(0, 7 + 4), -5);
    }

    private static void send() {
        PerhapsWas x = Made.with(2);
        due.is("send from none", x.send(2, 0), NONE);
        due.is("send to none", x.send(0, 2), NONE);
        due.is("send to -1", x.send(0, -1), NONE);
        due.is("send from -1", x.send(-1, 0), NONE);
        due.is("send, NONE ahead of BAD", x.send(2, 2), NONE);
        due.is("send to itself", x.send(1, 1), BAD);
        for (int l = 0; l < 6; l++) {
            due.is("send " + l, x.send(0, 1), l);
        }
        due.is("send, FULL", x.send(0, 1), FULL);
        due.is("send, BAD ahead of FULL", x.send(0, 0), BAD);
        due.is("send, NONE ahead of FULL", x.send(0, 2), NONE);
        due.is("letters go on", x.send(1, 0), 6);
        due.is("count(2)", x.count(2), 7);
        due.is("count(1)", x.count(1), 7);
    }

    private static void take() {
        PerhapsWas x = Made.with(2);
        due.is("take of none", x.take(0), NONE);
        x.send(0, 1);
        due.is("take of -1", x.take(-1), NONE);
        due.is("take of the next", x.take(1), NONE);
        due.is("take of HIGH", x.take(HIGH), NONE);
        x.own(1, 0, 3, 0);
        due.is("take", x.take(0), 2);
        due.is("take again", x.take(0), STATE);
        x.send(0, 1);
        x.send(0, 1);
        due.is("take the later one first", x.take(2), 3);
        Made.fill(x, 1);
        due.is("take, FULL", x.take(1), FULL);
        due.is("take, STATE ahead of FULL", x.take(2), STATE);
        due.is("take, NONE ahead of FULL", x.take(3), NONE);
        due.is("not taken", x.count(3), 1);
    }

    private static void waiting() {
        PerhapsWas x = Made.with(3);
        due.is("wait of none", x.wait(3, 0), NONE);
        due.is("wait for none", x.wait(0, 3), NONE);
        due.is("wait of -1", x.wait(-1, 0), NONE);
        due.is("wait for -1", x.wait(0, -1), NONE);
        due.is("wait, NONE ahead of BAD", x.wait(3, 3), NONE);
        due.is("wait for itself", x.wait(0, 0), BAD);
        due.is("wait for one without events", x.wait(0, 1), 1);
        x.own(1, 0, 1, 0);
        due.is("later events are not ahead of it", x.ahead(1, 0, 0, 0), 3);
        due.is("wait", x.wait(0, 1), 2);
        due.is("all so far are ahead of it", x.ahead(1, 0, 0, 1), 1);
        due.is("wait of a third", x.wait(2, 0), 1);
        due.is("through another", x.ahead(1, 0, 2, 0), 1);
        Made.fill(x, 0);
        due.is("wait, FULL", x.wait(0, 1), FULL);
        due.is("wait, BAD ahead of FULL", x.wait(0, 0), BAD);
        due.is("wait, NONE ahead of FULL", x.wait(0, 3), NONE);
    }

    private static void undo() {
        PerhapsWas x = Made.with(3);
        due.is("undo of none", x.undo(), STATE);
        x.own(2, 0, 1, 0);
        x.send(0, 1);
        x.take(0);
        x.wait(2, 1);
        due.is("undo of a WAIT", x.undo(), 2);
        due.is("count(1)", x.count(1), 3);
        due.is("undo of a TAKE", x.undo(), 1);
        due.is("its letter is not taken", x.letter(0, 3), NONE);
        due.is("count(3)", x.count(3), 1);
        due.is("taken again", x.take(0), 1);
        due.is("undo again", x.undo(), 1);
        due.is("undo of a SEND", x.undo(), 0);
        due.is("its letter is no more", x.letter(0, 0), NONE);
        due.is("count(2)", x.count(2), 0);
        due.is("take of it", x.take(0), NONE);
        due.is("undo of an OWN", x.undo(), 2);
        due.is("undo of none left", x.undo(), STATE);
        due.is("processes stay", x.count(0), 3);
        due.is("numbers are used again", x.send(1, 0), 0);
    }

    private static void undoneClocksAndValues() {
        PerhapsWas x = Made.with(2);
        x.part(0, 1, 0);
        x.condition();
        x.own(0, 0, 1, 0);
        x.own(1, 0, 5, 0);
        x.wait(1, 0);
        x.own(1, 0, 6, 0);
        x.undo();
        x.undo();
        x.own(1, 0, 3, 1);
        due.is("clock behind undo", x.clock(1, 1, 0), 0);
        due.is("value behind undo", x.value(0, 14), 8);
        due.is("possible behind undo", x.possible(14), 1);
        due.is("orders behind undo", x.orders(), 3);
        x.undo();
        due.is("no such cut any more", x.possible(14), NONE);
        due.is("cuts behind undo", x.cuts(-1), 4);
    }

    private static void event() {
        PerhapsWas x = Made.allKinds();
        int[][] events = {{0, 0, 0, 2, 0}, {0, 1, 1, 1, 1}, {1, 0, 2, 0, 2}, {0, 2, 2, 1, 3}, {1, 1, 3, 1, 4}, {0, 3, 4, 2, 5}};
        for (int[] e : events) {
            for (int what = 0; what < 3; what++) {
                due.is("event(" + e[0] + ", " + e[1] + ", " + what + ")", x.event(e[0], e[1], what), e[2 + what]);
            }
        }
        due.is("event of no process", x.event(3, 0, 0), NONE);
        due.is("event of process -1", x.event(-1, 0, 0), NONE);
        due.is("event of process LOW", x.event(LOW, LOW, LOW), NONE);
        due.is("event 4 of 0", x.event(0, 4, 0), NONE);
        due.is("event -1 of 0", x.event(0, -1, 0), NONE);
        due.is("event 0 of 2", x.event(2, 0, 0), NONE);
        due.is("event, what 3", x.event(0, 0, 3), NONE);
        due.is("event, what -1", x.event(0, 0, -1), NONE);
    }

    private static void letter() {
        PerhapsWas x = Made.allKinds();
        int[][] letters = {{1, 2, 0, NONE}, {0, 1, 2, 1}};
        for (int l = 0; l < 2; l++) {
            for (int what = 0; what < 4; what++) {
                due.is("letter(" + l + ", " + what + ")", x.letter(l, what), letters[l][what]);
            }
        }
        due.is("letter 2", x.letter(2, 0), NONE);
        due.is("letter -1", x.letter(-1, 0), NONE);
        due.is("letter, what 4", x.letter(0, 4), NONE);
        due.is("letter, what -1", x.letter(0, -1), NONE);
    }

    private static void ahead() {
        PerhapsWas x = Made.allKinds();
        due.is("in a row", x.ahead(0, 0, 0, 3), 1);
        due.is("in a row, the other way", x.ahead(0, 3, 0, 0), 2);
        due.is("one", x.ahead(0, 2, 0, 2), 0);
        due.is("beside", x.ahead(0, 0, 1, 0), 3);
        due.is("send and take", x.ahead(0, 2, 1, 1), 1);
        due.is("take and send", x.ahead(1, 1, 0, 2), 2);
        due.is("through the send", x.ahead(0, 0, 1, 1), 1);
        due.is("behind the send", x.ahead(0, 3, 1, 1), 3);
        due.is("ahead of no process", x.ahead(3, 0, 0, 0), NONE);
        due.is("ahead of no event", x.ahead(0, 4, 0, 0), NONE);
        due.is("ahead, no other process", x.ahead(0, 0, 3, 0), NONE);
        due.is("ahead, no other event", x.ahead(0, 0, 1, 2), NONE);
        due.is("ahead, event -1", x.ahead(0, -1, 0, -1), NONE);
    }

    private static void clock() {
        PerhapsWas x = Made.allKinds();
        due.is("its own", x.clock(0, 3, 0), 4);
        due.is("its own first", x.clock(1, 0, 1), 1);
        due.is("nothing ahead", x.clock(1, 0, 0), 0);
        due.is("the letter's", x.clock(1, 1, 0), 3);
        due.is("one without events", x.clock(1, 1, 2), 0);
        due.is("clock of no process", x.clock(3, 0, 0), NONE);
        due.is("clock of no event", x.clock(1, 2, 0), NONE);
        due.is("clock of event -1", x.clock(1, -1, 0), NONE);
        due.is("clock for no process", x.clock(1, 1, 3), NONE);
        due.is("clock for -1", x.clock(1, 1, -1), NONE);
    }
}
