/** The terms at their edges: the constants, and 1 PROCESSES, with events, cuts and orders. */
final class BoundsOfTerms {
    private static final int NONE = PerhapsWas.NONE, BAD = PerhapsWas.BAD;
    private static final int STATE = PerhapsWas.STATE, FULL = PerhapsWas.FULL;
    private static final int LOW = Bounds.LOW, HIGH = Bounds.HIGH;

    private BoundsOfTerms() {
    }

    static void all(Bounds b) {
        constants(b);
        calls(b);
        processes(b);
        eventsInARow(b);
        names(b);
        letters(b);
        own(b);
        add(b);
        send(b);
        take(b);
        waitsForSoFar(b);
        aheadInRow(b);
        aheadBySend(b);
        aheadByWait(b);
        aheadThroughOthers(b);
        beside(b);
        clock(b);
        countsOfACut(b);
        numberOfACut(b);
        size(b);
        possible(b);
        orderOfCuts(b);
        joinAndMeet(b);
        anOrder(b);
        passes(b);
    }

    private static void constants(Bounds b) {
        b.sentence(0, "public static final int NONE = -1, BAD = -2, STATE = -3, FULL = -4;");
        b.is("NONE", NONE, -1);
        b.is("BAD", BAD, -2);
        b.is("STATE", STATE, -3);
        b.is("FULL", FULL, -4);
    }

    private static void calls(Bounds b) {
        b.sentence(0, "An object is used for at most 512 calls after it has been made; what later calls answer is free.");
        PerhapsWas x = Made.with(2);
        for (int call = 3; call < 511; call += 2) {
            b.is("call " + call, x.own(1, 0, call, 0), 1);
            b.is("call " + (call + 1), x.undo(), 1);
        }
        b.is("call 511", x.send(1, 0), 0);
        b.is("call 512", x.orders(), 1);
        x = Made.full();
        Made.constant(x, 0);
        for (int call = 31; call <= 512; call++) {
            b.is("call " + call + ", the dearest", x.avoids(0), 2308743493056L);
        }
    }

    private static void processes(Bounds b) {
        b.sentence(0, "1 PROCESSES are numbered from 0 on, 4 at most;");
        PerhapsWas x = new PerhapsWas();
        for (int p = 0; p < 4; p++) {
            b.is("process " + p + ", not yet", x.least(p, 0), NONE);
            b.is("process()", x.process(), p);
            b.is("process " + p, x.least(p, 0), 0);
        }
        b.is("a fifth", x.process(), FULL);
        b.is("process 4", x.least(4, 0), NONE);
        b.is("four", x.count(0), 4);
    }

    private static void eventsInARow(Bounds b) {
        b.sentence(0, "each has EVENTS in a row, numbered from 0 on, 6 at most,");
        for (int kind = 0; kind < 5; kind++) {
            for (int p = 0; p < 4; p++) {
                PerhapsWas x = Made.with(4);
                int other = (p + 1) % 4;
                for (int l = 0; l < 6; l++) {
                    x.send(other, p);
                }
                for (int i = 0; i < 6; i++) {
                    b.is("event " + i + " of " + p + ", not yet", x.event(p, i, 0), NONE);
                    come(x, kind, p, other, i);
                    b.is("event " + i + " of " + p, x.event(p, i, 0), kind);
                }
                b.is("seventh of kind " + kind, come(x, kind, p, other, 5), kind == 3 ? STATE : FULL);
                b.is("event 6", x.event(p, 6, 0), NONE);
                b.is("event -1", x.event(p, -1, 0), NONE);
                b.is("six and six", x.count(1), 12);
            }
        }
    }

    private static int come(PerhapsWas x, int kind, int p, int other, int letter) {
        switch (kind) {
            case 0:
            case 1:
                return x.own(p, 0, 1, kind);
            case 2:
                return x.send(p, other);
            case 3:
                return x.take(letter);
            default:
                return x.wait(p, other);
        }
    }

    private static void names(Bounds b) {
        b.sentence(0, "and three NAMES 0, 1, 2 with values, ints, 0 at first.");
        for (int p = 0; p < 4; p++) {
            for (int name = 0; name < 3; name++) {
                PerhapsWas x = Made.with(4);
                int c = Made.ofPart(x, 0, p, name);
                b.is("at first", x.value(c, 0), 0);
                x.own(p, name, LOW, 0);
                x.own(p, name, HIGH, 0);
                int weight = Made.WEIGHTS[p];
                b.is("still at first", x.value(c, 0), 0);
                b.is("the least int", x.value(c, weight), LOW);
                b.is("the greatest int", x.value(c, 2 * weight), HIGH);
            }
            b.is("NAME 3", Made.with(4).own(p, 3, 0, 0), NONE);
            b.is("NAME -1", Made.with(4).own(p, -1, 0, 0), NONE);
        }
        PerhapsWas full = Made.full();
        for (int p = 0; p < 4; p++) {
            int c = Made.ofPart(full, 0, p, 2);
            b.is("of " + p + " at first, beside six events of all others", full.value(c, 2400 - 6 * Made.WEIGHTS[p]), 0);
            b.is("of " + p + " behind all", full.value(c, 2400), 6);
        }
    }

    private static void letters(Bounds b) {
        b.sentence(0, "LETTERS are numbered from 0 on.");
        PerhapsWas x = Made.with(4);
        for (int l = 0; l < 24; l++) {
            b.is("letter " + l + ", not yet", x.letter(l, 0), NONE);
            b.is("letter " + l, x.send(l % 4, (l + 1) % 4), l);
            b.is("letter " + l + " is from", x.letter(l, 0), l % 4);
        }
        b.is("letter 24", x.letter(24, 0), NONE);
        b.is("as many as there can be", x.count(2), 24);
    }

    private static void own(Bounds b) {
        b.sentence(0, "EVENTS: OWN: a NAME of its PROCESS becomes v;");
        int[] values = {LOW, HIGH, -1, 0, 1};
        for (int v : values) {
            PerhapsWas x = Made.with(2);
            for (int name = 0; name < 3; name++) {
                x.own(0, name, 40 + name, 0);
                x.own(1, name, 50 + name, 0);
            }
            x.own(0, 1, v, 0);
            b.is("it becomes", Made.nameBehindAll(x, 0, 1), v);
            b.is("not the name below", Made.nameBehindAll(x, 0, 0), 40);
            b.is("not the name above", Made.nameBehindAll(x, 0, 2), 42);
            b.is("not another one's", Made.nameBehindAll(x, 1, 1), 51);
        }
    }

    private static void add(Bounds b) {
        b.sentence(0, "ADD: one becomes v more (wrapping);");
        int[][] sums = {{HIGH, 1, LOW}, {LOW, -1, HIGH}, {LOW, LOW, 0}, {HIGH, HIGH, -2}, {HIGH, LOW, -1}, {5, 0, 5}, {5, -5, 0}};
        for (int[] sum : sums) {
            PerhapsWas x = Made.with(1);
            x.own(0, 2, sum[0], 0);
            x.own(0, 2, sum[1], 1);
            b.is(sum[0] + " and " + sum[1] + " more", Made.nameBehindAll(x, 0, 2), sum[2]);
        }
        PerhapsWas x = Made.with(1);
        x.own(0, 2, LOW, 1);
        b.is("more than at first", Made.nameBehindAll(x, 0, 2), LOW);
        b.is("not the name below", Made.nameBehindAll(x, 0, 1), 0);
    }

    private static void send(Bounds b) {
        b.sentence(0, "SEND: a LETTER goes out to another PROCESS;");
        for (int p = 0; p < 4; p++) {
            for (int q = 0; q < 4; q++) {
                PerhapsWas x = Made.with(4);
                b.is("from " + p + " to " + q, x.send(p, q), p == q ? BAD : 0);
                b.is("from", x.letter(0, 0), p == q ? NONE : p);
                b.is("to", x.letter(0, 1), p == q ? NONE : q);
            }
        }
    }

    private static void take(Bounds b) {
        b.sentence(0, "TAKE of a LETTER that came to its PROCESS and was not taken;");
        PerhapsWas x = Made.with(3);
        x.send(0, 2);
        x.send(1, 2);
        x.send(0, 1);
        b.is("the later one first", x.take(1), 1);
        b.is("by the one that it came to", x.event(2, 0, 0), 3);
        b.is("once", x.take(1), STATE);
        b.is("the earlier one", x.take(0), 2);
        b.is("another one's", x.take(2), 2);
        b.is("by that", x.event(1, 1, 1), 2);
        b.is("all taken", x.count(3), 0);
        for (int l = 0; l < 3; l++) {
            b.is("none is left", x.take(l), STATE);
        }
    }

    private static void waitsForSoFar(Bounds b) {
        b.sentence(0, "WAIT for another PROCESS: all EVENTS that this has had so far are AHEAD of it.");
        for (int had = 0; had <= 6; had++) {
            PerhapsWas x = Made.rows(0, had);
            x.wait(0, 1);
            Made.fill(x, 1);
            for (int i = 0; i < 6; i++) {
                b.is("event " + i + ", of " + had + " so far", x.ahead(1, i, 0, 0), i < had ? 1 : 3);
            }
            b.is("so many", x.clock(0, 0, 1), had);
        }
    }

    private static void aheadInRow(Bounds b) {
        b.sentence(0, "An EVENT is AHEAD of another one if it comes ahead of it in its PROCESS's row,");
        PerhapsWas x = Made.rows(6);
        for (int i = 0; i < 6; i++) {
            for (int j = 0; j < 6; j++) {
                b.is(i + " and " + j, x.ahead(0, i, 0, j), i == j ? 0 : i < j ? 1 : 2);
            }
        }
    }

    private static void aheadBySend(Bounds b) {
        b.sentence(0, "or is the SEND of the LETTER that this TAKES,");
        PerhapsWas x = Made.rows(1, 1);
        x.send(0, 1);
        x.send(0, 1);
        x.send(0, 1);
        x.take(1);
        b.is("the SEND", x.ahead(0, 2, 1, 1), 1);
        b.is("the SEND of the next LETTER", x.ahead(0, 3, 1, 1), 3);
        b.is("the SEND, of the one ahead of the TAKE", x.ahead(0, 2, 1, 0), 3);
        x.take(0);
        b.is("an earlier SEND", x.clock(1, 2, 0), 3);
        x.take(2);
        b.is("the last SEND", x.clock(1, 3, 0), 4);
    }

    private static void aheadByWait(Bounds b) {
        b.sentence(0, "or as told at WAIT,");
        PerhapsWas x = Made.rows(1, 2);
        x.wait(0, 1);
        x.own(0, 0, 1, 0);
        x.own(1, 0, 1, 0);
        b.is("the last so far", x.ahead(1, 1, 0, 1), 1);
        b.is("the first after that", x.ahead(1, 2, 0, 1), 3);
        b.is("of the one ahead of the WAIT", x.ahead(1, 0, 0, 0), 3);
        b.is("of the one behind the WAIT", x.ahead(1, 1, 0, 2), 1);
        b.is("not the other way", x.ahead(0, 1, 1, 2), 3);
    }

    private static void aheadThroughOthers(Bounds b) {
        b.sentence(0, "or is AHEAD of one that is AHEAD of it.");
        PerhapsWas x = Made.with(4);
        x.own(0, 0, 1, 0);
        x.send(0, 1);
        x.take(0);
        x.wait(2, 1);
        x.send(2, 3);
        x.own(2, 0, 1, 0);
        x.take(1);
        b.is("through three", x.ahead(0, 0, 3, 0), 1);
        b.is("from behind", x.ahead(3, 0, 0, 0), 2);
        for (int q = 0; q < 4; q++) {
            b.is("of process " + q, x.clock(3, 0, q), new int[] {2, 1, 2, 1}[q]);
        }
        b.is("not the one behind the SEND", x.ahead(2, 2, 3, 0), 3);
    }

    private static void beside(Bounds b) {
        b.sentence(0, "BESIDE are two of which none is AHEAD.");
        PerhapsWas x = Made.full();
        for (int p = 0; p < 4; p++) {
            for (int q = 0; q < 4; q++) {
                b.is("the last of " + p + " and the first of " + q, x.ahead(p, 5, q, 0), p == q ? 2 : 3);
                b.is("the first of " + p + " and the first of " + q, x.ahead(p, 0, q, 0), p == q ? 0 : 3);
            }
        }
    }

    private static void clock(Bounds b) {
        b.sentence(0, "The CLOCK of an EVENT for a PROCESS: how many EVENTS of that are AHEAD of it, or it.");
        PerhapsWas x = Made.rows(6, 5, 0);
        x.wait(1, 0);
        b.is("all six of another one", x.clock(1, 5, 0), 6);
        b.is("none of another one", x.clock(1, 4, 0), 0);
        b.is("its own first: it", x.clock(0, 0, 0), 1);
        b.is("its own last: it, and five", x.clock(0, 5, 0), 6);
        b.is("of one without events", x.clock(1, 5, 2), 0);
        b.is("not those of which it is AHEAD", x.clock(0, 5, 1), 0);
    }

    private static void countsOfACut(Bounds b) {
        b.sentence(0, "A CUT has, for each PROCESS p, how many of its first EVENTS are in it, c(p), 0 to as many as it has;");
        int[][] made = {{}, {0}, {6}, {0, 6}, {2, 0, 6, 1}, {6, 6, 6, 6}, {5, 5, 5, 5}};
        for (int[] had : made) {
            for (int in3 = 0; in3 <= 6; in3++) {
                PerhapsWas x = Made.rows(had);
                for (int rest = 0; rest < 343; rest++) {
                    int cut = rest + 343 * in3;
                    b.is("possible(" + cut + ")", x.possible(cut), isCut(cut, had) ? 1 : NONE);
                }
            }
        }
    }

    private static boolean isCut(int cut, int[] had) {
        int rest = cut;
        for (int p = 0; p < 4; p++) {
            if (rest % 7 > (p < had.length ? had[p] : 0)) {
                return false;
            }
            rest /= 7;
        }
        return true;
    }

    private static void numberOfACut(Bounds b) {
        b.sentence(0, "its number: c(0) + 7 c(1) + 49 c(2) + 343 c(3) (of those that there are).");
        PerhapsWas x = Made.full();
        for (int p = 0; p < 4; p++) {
            Made.ofPart(x, 2, p, 0);
        }
        int[][] cuts = {{0, 0, 0, 0}, {6, 6, 6, 6}, {6, 0, 0, 0}, {0, 6, 0, 0}, {0, 0, 6, 0}, {0, 0, 0, 6}, {1, 2, 3, 4}, {6, 5, 4, 3}};
        for (int[] c : cuts) {
            int cut = c[0] + 7 * c[1] + 49 * c[2] + 343 * c[3];
            for (int p = 0; p < 4; p++) {
                b.is("c(" + p + ") of " + cut, x.value(p, cut), c[p]);
            }
        }
        b.is("of two, all", Made.rows(6, 6).next(47), 48);
        b.is("of two, no third", Made.rows(6, 6).possible(49), NONE);
        b.is("of three, all", Made.rows(6, 6, 6).next(341), 342);
        b.is("of three, no fourth", Made.rows(6, 6, 6).possible(343), NONE);
    }

    private static void size(Bounds b) {
        b.sentence(0, "Its SIZE is how many EVENTS are in it.");
        PerhapsWas x = Made.full();
        int[] sizes = {1, 4, 10, 20, 35, 56, 84, 116, 149, 180, 206, 224, 231, 224, 206, 180, 149, 116, 84, 56, 35, 20, 10, 4, 1, 0};
        for (int size = 0; size < sizes.length; size++) {
            b.is("of size " + size, x.cuts(size), sizes[size]);
        }
        b.is("none without events", new PerhapsWas().cuts(1), 0);
    }

    private static void possible(Bounds b) {
        b.sentence(0, "It is POSSIBLE if with each EVENT all are in it that are AHEAD of that.");
        PerhapsWas x = Made.with(3);
        x.send(0, 1);
        x.take(0);
        x.send(1, 2);
        x.take(1);
        b.is("no event", x.possible(0), 1);
        b.is("all events", x.possible(1 + 14 + 49), 1);
        b.is("the TAKE alone", x.possible(7), 0);
        b.is("with its SEND", x.possible(8), 1);
        b.is("the SEND alone", x.possible(1), 1);
        b.is("all but the first of all", x.possible(14 + 49), 0);
        b.is("all but the last of all", x.possible(1 + 14), 1);
        b.is("one missing between", x.possible(1 + 7 + 49), 0);
    }

    private static void orderOfCuts(Bounds b) {
        b.sentence(0, "CUTS are in the order of SIZE, then of their numbers.");
        PerhapsWas x = Made.rows(6, 1, 1);
        int[] inOrder = {0, 1, 7, 49, 2, 8, 50, 56, 3, 9, 51, 57, 4, 10, 52, 58, 5, 11, 53, 59, 6, 12, 54, 60, 13, 55, 61, 62};
        int cut = -1;
        for (int want : inOrder) {
            b.is("behind " + cut, x.next(cut), want);
            cut = want;
        }
        b.is("behind the last", x.next(62), NONE);
    }

    private static void joinAndMeet(Bounds b) {
        b.sentence(0, "The JOIN of two CUTS has the greater, the MEET the lesser of each two counts.");
        PerhapsWas x = Made.full();
        int a = 6 + 49 * 6 + 343 * 2;
        int c = 7 * 6 + 49 * 5 + 343 * 2;
        b.is("JOIN", x.join(a, c, 0), 6 + 42 + 294 + 686);
        b.is("MEET", x.join(a, c, 1), 245 + 686);
        b.is("JOIN, the other way", x.join(c, a, 0), 6 + 42 + 294 + 686);
        b.is("MEET, the other way", x.join(c, a, 1), 245 + 686);
    }

    private static void anOrder(Bounds b) {
        b.sentence(0, "AN ORDER is a row of all EVENTS, in which none stands ahead of one that is AHEAD of it; "
                + "it is told by the PROCESSES of its EVENTS.");
        b.is("of no events", new PerhapsWas().orders(), 1);
        PerhapsWas x = Made.rows(1, 1);
        x.send(0, 1);
        x.take(0);
        String[] orders = {"0011", "0101", "1001"};
        b.is("orders()", x.orders(), 3);
        for (int n = 0; n < 3; n++) {
            for (int i = 0; i < 4; i++) {
                b.is("order(" + n + ", " + i + ")", x.order(n, i), orders[n].charAt(i) - '0');
            }
            Made.tell(x, orders[n]);
            b.is(orders[n], x.check(), 100);
        }
        Made.tell(x, "0110");
        b.is("the TAKE ahead of its SEND", x.check(), 2);
        Made.tell(x, "001");
        b.is("not all", x.check(), 3);
    }

    private static void passes(Bounds b) {
        b.sentence(0, "It PASSES the CUTS of its beginnings, from that without EVENTS to that with all.");
        PerhapsWas x = Made.rows(2, 1);
        int first = Made.conditionAt(x, 0, 0);
        int all = Made.conditionAt(x, 2, 1);
        b.is("that without EVENTS", x.sure(first), 1);
        b.is("that with all", x.sure(all), 1);
        Made.tell(x, "001");
        b.is("behind none", x.passes(first), 0);
        b.is("behind all", x.passes(all), 3);
        b.is("each of all", x.before(first, all), 1);
    }
}
