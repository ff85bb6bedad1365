/** Promises 34 to 37: a told order, and count. */
public final class RowTest {
    private static final int NONE = PerhapsWas.NONE, BAD = PerhapsWas.BAD;
    private static final int STATE = PerhapsWas.STATE, FULL = PerhapsWas.FULL;
    private static final Due due = new Due("RowTest");

    public static void main(String[] args) {
        say();
        check();
        longest();
        passes();
        count();
        due.end();
    }

    /** 0: own, send; 1: own, take. */
    private static PerhapsWas letterRun() {
        PerhapsWas x = Made.with(2);
        x.own(0, 0, 1, 0);
        x.own(1, 0, 1, 0);
        x.send(0, 1);
        x.take(0);
        return x;
    }

    private static void say() {
        PerhapsWas x = new PerhapsWas();
        due.is("say(4)", x.say(4), BAD);
        due.is("say(-1)", x.say(-1), BAD);
        due.is("say(HIGH)", x.say(Integer.MAX_VALUE), BAD);
        for (int k = 1; k <= 24; k++) {
            due.is("say " + k, x.say(k % 4), k);
        }
        due.is("say 25", x.say(0), FULL);
        due.is("say, BAD ahead of FULL", x.say(4), BAD);
        due.is("count(6)", x.count(6), 24);
        due.is("check()", x.check(), 0);
        due.is("it is empty then", x.count(6), 0);
        due.is("say again", x.say(3), 1);
    }

    private static void check() {
        PerhapsWas x = letterRun();
        String[] rows = {"", "0", "01", "0011", "0101", "1001", "011", "0110", "11", "000", "2", "03", "1000", "00111", "00112"};
        int[] want = {0, 1, 2, 100, 100, 100, 2, 2, 1, 2, 0, 1, 3, 4, 4};
        for (int k = 0; k < rows.length; k++) {
            Made.tell(x, rows[k]);
            due.is("check() of " + rows[k], x.check(), want[k]);
            due.is("empty behind " + rows[k], x.count(6), 0);
        }
        Made.tell(x, "001");
        x.undo();
        due.is("check() behind undo", x.check(), 100);
        due.is("check() of no events", new PerhapsWas().check(), 100);
    }

    private static void longest() {
        PerhapsWas x = Made.full();
        Made.tell(x, "012301230123012301230123");
        due.is("check() of 24", x.check(), 100);
        Made.tell(x, "012301230123012301230120");
        due.is("check(), the last one wrong", x.check(), 23);
        Made.tell(x, "01230123012301230123012");
        due.is("check(), one missing", x.check(), 23);
        x.number(0);
        x.condition();
        Made.tell(x, "012301230123012301230123");
        due.is("passes, 24 and never", x.passes(0), NONE);
        x.part(2, 3, 0);
        x.number(6);
        x.op(4);
        x.condition();
        due.is("passes at the last", x.passes(1), 24);
    }

    private static void passes() {
        PerhapsWas x = letterRun();
        x.part(1, 0, 1);
        x.condition();
        x.number(1);
        x.condition();
        x.number(0);
        x.condition();
        due.is("passes, no events told, never", x.passes(0), NONE);
        due.is("passes at the start", x.passes(1), 0);
        Made.tell(x, "0100");
        due.is("passes, STATE", x.passes(0), STATE);
        due.is("passes, STATE though it held", x.passes(1), STATE);
        due.is("passes, STATE though it never would", x.passes(2), STATE);
        due.is("passes, NONE ahead of STATE", x.passes(3), NONE);
        due.is("the row stays", x.count(6), 4);
        x.check();
        Made.tell(x, "010");
        due.is("passes, a beginning", x.passes(0), 3);
        due.is("passes, never", x.passes(2), NONE);
        x.say(1);
        due.is("passes, an order", x.passes(0), 3);
        due.is("the row stays", x.count(6), 4);
        due.is("check()", x.check(), 100);
        Made.tell(x, "2");
        due.is("passes, no such process", x.passes(0), STATE);
    }

    private static void count() {
        PerhapsWas x = letterRun();
        x.process();
        x.send(1, 2);
        x.number(1);
        x.condition();
        x.number(1);
        x.number(1);
        x.number(1);
        x.op(0);
        x.say(3);
        x.say(3);
        x.say(3);
        int[] want = {3, 5, 2, 1, 1, 2, 3};
        for (int what = 0; what < 7; what++) {
            due.is("count(" + what + ")", x.count(what), want[what]);
        }
        due.is("count(7)", x.count(7), NONE);
        due.is("count(-1)", x.count(-1), NONE);
    }
}
