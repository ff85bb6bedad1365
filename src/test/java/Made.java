/** Objects that several tests begin with, and what several tests do with them. */
final class Made {
    /** How much an event of each process adds to the number of a cut. */
    static final int[] WEIGHTS = {1, 7, 49, 343};

    private Made() {
    }

    static PerhapsWas with(int processes) {
        PerhapsWas x = new PerhapsWas();
        for (int p = 0; p < processes; p++) {
            x.process();
        }
        return x;
    }

    /** So many processes as there are numbers, each with so many ADDs of 1 to name 2, all beside. */
    static PerhapsWas rows(int... events) {
        PerhapsWas x = with(events.length);
        for (int p = 0; p < events.length; p++) {
            for (int i = 0; i < events[p]; i++) {
                x.own(p, 2, 1, 1);
            }
        }
        return x;
    }

    /** All events that there can be, each an ADD of 1 to name 2; those of two processes are beside. */
    static PerhapsWas full() {
        return rows(6, 6, 6, 6);
    }

    static void fill(PerhapsWas x, int p) {
        for (int i = 0; i < 6; i++) {
            x.own(p, 2, 1, 1);
        }
    }

    /** Three processes with an event of each kind: 0: OWN, ADD, SEND, WAIT; 1: SEND, TAKE; 2: none. */
    static PerhapsWas allKinds() {
        PerhapsWas x = with(3);
        x.own(0, 2, 9, 0);
        x.own(0, 1, 9, 1);
        x.send(1, 2);
        x.send(0, 1);
        x.take(1);
        x.wait(0, 2);
        return x;
    }

    /** Something of all, and room for more of all. */
    static PerhapsWas mixed() {
        PerhapsWas x = allKinds();
        conditionAt(x, 2, 1);
        constant(x, 0);
        tell(x, "01");
        x.number(5);
        x.part(0, 0, 2);
        return x;
    }

    /** As much of all as there can be. */
    static PerhapsWas brimful() {
        PerhapsWas x = with(4);
        for (int p = 0; p < 4; p++) {
            x.send(p, (p + 1) % 4);
            x.send(p, (p + 2) % 4);
        }
        for (int l = 0; l < 8; l += 3) {
            x.take(l);
        }
        for (int p = 0; p < 4; p++) {
            fill(x, p);
        }
        for (int c = 0; c < 8; c++) {
            conditionAt(x, c, c / 2);
        }
        tell(x, "012301230123012301230123");
        for (int k = 1; k <= 6; k++) {
            x.number(k);
        }
        x.value(8, 0);
        return x;
    }

    static void tell(PerhapsWas x, String row) {
        for (int k = 0; k < row.length(); k++) {
            x.say(row.charAt(k) - '0');
        }
    }

    /** What comes holds just at the cuts with a and b events of the processes 0 and 1. */
    static void at(PerhapsWas x, int a, int b) {
        x.part(2, 0, 0);
        x.number(a);
        x.op(4);
        x.part(2, 1, 0);
        x.number(b);
        x.op(4);
        x.op(5);
    }

    static int conditionAt(PerhapsWas x, int a, int b) {
        at(x, a, b);
        return x.condition();
    }

    static int conditionAtTwo(PerhapsWas x, int a, int b, int c, int d) {
        at(x, a, b);
        at(x, c, d);
        x.op(6);
        return x.condition();
    }

    static int constant(PerhapsWas x, int v) {
        x.number(v);
        return x.condition();
    }

    static int ofPart(PerhapsWas x, int what, int a, int b) {
        x.part(what, a, b);
        return x.condition();
    }

    /** What the name is behind all events of the process; a condition more. */
    static int nameBehindAll(PerhapsWas x, int p, int name) {
        int had = 0;
        while (had < 6 && x.event(p, had, 0) != PerhapsWas.NONE) {
            had++;
        }
        return x.value(ofPart(x, 0, p, name), had * WEIGHTS[p]);
    }

    /** A NUMBER comes, and more of them that are added to it, or ops 7 on it: the top has so many parts. */
    static void top(PerhapsWas x, int parts) {
        x.number(1);
        for (int k = 1; k < parts; k += 2) {
            if (k + 1 == parts) {
                x.op(7);
            } else {
                x.number(1);
                x.op(0);
            }
        }
    }
}
