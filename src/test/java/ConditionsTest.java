/** Promises 19 to 33: conditions. */
public final class ConditionsTest {
    private static final int NONE = PerhapsWas.NONE, BAD = PerhapsWas.BAD;
    private static final int STATE = PerhapsWas.STATE, FULL = PerhapsWas.FULL;
    private static final int LOW = Integer.MIN_VALUE, HIGH = Integer.MAX_VALUE;
    private static final Due due = new Due("ConditionsTest");

    public static void main(String[] args) {
        number();
        part();
        op();
        ops();
        mostParts();
        mostPartsOfEach();
        partsOfBothSides();
        sidesOfSeveral();
        condition();
        clear();
        value();
        parts();
        mayLastMany();
        sureAvoidAvoids();
        is();
        before();
        largest();
        noSuchCondition();
        due.end();
    }

    /** Two processes with two events each, none beside in its row. */
    private static PerhapsWas grid() {
        PerhapsWas x = Made.with(2);
        for (int p = 0; p < 2; p++) {
            x.own(p, 0, 1, 0);
            x.own(p, 0, 2, 0);
        }
        return x;
    }

    private static void number() {
        PerhapsWas x = new PerhapsWas();
        for (int k = 1; k <= 6; k++) {
            due.is("number " + k, x.number(k == 1 ? LOW : HIGH), k);
        }
        due.is("seventh number", x.number(0), FULL);
        due.is("count(5)", x.count(5), 6);
        x.op(0);
        due.is("number behind an op", x.number(0), 6);
    }

    private static void part() {
        PerhapsWas x = new PerhapsWas();
        due.is("NAME", x.part(0, 3, 2), 1);
        due.is("UNDER WAY", x.part(1, 3, 0), 2);
        due.is("EVENTS", x.part(2, 3, 0), 3);
        int[][] none = {{0, 4, 0}, {0, -1, 0}, {0, 0, 3}, {0, 0, -1}, {1, 4, 0}, {1, 0, 4}, {1, -1, 0}, {1, 0, -1},
            {1, 4, 4}, {2, 4, 0}, {2, -1, 0}, {2, 0, 4}, {2, 0, -1}, {3, 0, 0}, {-1, 0, 0}, {HIGH, HIGH, HIGH}};
        int[][] bad = {{1, 2, 2}, {1, 0, 0}, {2, 0, 1}, {2, 3, 3}};
        for (int round = 0; round < 2; round++) {
            for (int[] n : none) {
                due.is("part(" + n[0] + ", " + n[1] + ", " + n[2] + ")", x.part(n[0], n[1], n[2]), NONE);
            }
            for (int[] b : bad) {
                due.is("part(" + b[0] + ", " + b[1] + ", " + b[2] + ")", x.part(b[0], b[1], b[2]), BAD);
            }
            due.is("count(5)", x.count(5), round == 0 ? 3 : 6);
            x.number(0);
            x.number(0);
            x.number(0);
        }
        due.is("seventh part", x.part(0, 0, 0), FULL);
    }

    private static void op() {
        PerhapsWas x = new PerhapsWas();
        due.is("op 7 of none", x.op(7), STATE);
        due.is("op 8 of none", x.op(8), NONE);
        x.number(3);
        for (int op = 0; op < 7; op++) {
            due.is("op " + op + " of one", x.op(op), STATE);
        }
        due.is("op 7 of one", x.op(7), 1);
        due.is("op 8", x.op(8), NONE);
        due.is("op -1", x.op(-1), NONE);
        x.number(3);
        x.number(4);
        due.is("op of two of three", x.op(0), 2);
        due.is("op of two", x.op(6), 1);
    }

    private static int reckon(int left, int right, int op) {
        PerhapsWas x = new PerhapsWas();
        x.number(left);
        if (op != 7) {
            x.number(right);
        }
        x.op(op);
        return x.value(x.condition(), 0);
    }

    private static void ops() {
        due.is("0: +", reckon(5, 7, 0), 12);
        due.is("0: + wraps", reckon(HIGH, 1, 0), LOW);
        due.is("1: -", reckon(5, 7, 1), -2);
        due.is("1: - wraps", reckon(LOW, 1, 1), HIGH);
        due.is("2: *", reckon(5, -7, 2), -35);
        due.is("2: * wraps", reckon(1 << 16, 1 << 16, 2), 0);
        due.is("3: less", reckon(5, 7, 3), 1);
        due.is("3: not less", reckon(7, 5, 3), 0);
        due.is("3: alike is not less", reckon(7, 7, 3), 0);
        due.is("3: far less", reckon(LOW, HIGH, 3), 1);
        due.is("4: alike", reckon(7, 7, 4), 1);
        due.is("4: not alike", reckon(7, 5, 4), 0);
        due.is("5: both", reckon(7, -5, 5), 1);
        due.is("5: both, disjoint bits", reckon(1, 2, 5), 1);
        due.is("5: left alone", reckon(7, 0, 5), 0);
        due.is("5: right alone", reckon(0, 7, 5), 0);
        due.is("6: both", reckon(7, -7, 6), 1);
        due.is("6: left alone", reckon(7, 0, 6), 1);
        due.is("6: right alone", reckon(0, 7, 6), 1);
        due.is("6: none", reckon(0, 0, 6), 0);
        due.is("7: 0", reckon(0, 0, 7), 1);
        due.is("7: not 0", reckon(-3, 0, 7), 0);
    }

    private static void mostParts() {
        PerhapsWas x = new PerhapsWas();
        x.number(1);
        for (int k = 0; k < 7; k++) {
            x.number(1);
            due.is("op, parts " + (3 + 2 * k), x.op(0), 1);
        }
        due.is("op 7, 16 parts", x.op(7), FULL);
        due.is("op 0, STATE ahead of FULL", x.op(0), STATE);
        due.is("op 8, NONE ahead of FULL", x.op(8), NONE);
        due.is("condition of 15 parts", x.condition(), 0);
        due.is("its value", x.value(0, 0), 8);
        due.is("the pile has room again", x.number(1), 1);
        x.op(7);
        for (int k = 3; k <= 15; k++) {
            due.is("op 7, part " + k, x.op(7), 1);
        }
        due.is("op 7, part 16", x.op(7), FULL);
        due.is("clear", x.clear(0), 1);
        due.is("number behind clear", x.number(1), 1);
    }

    /** The limit of 15 parts is that of each on the pile, not of all together. */
    private static void mostPartsOfEach() {
        PerhapsWas x = new PerhapsWas();
        Made.top(x, 15);
        due.is("number beside one of 15 parts", x.number(1), 2);
        due.is("part beside one of 15 parts", x.part(2, 0, 0), 3);
        due.is("op beside one of 15 parts", x.op(0), 2);
        due.is("op 7 beside one of 15 parts", x.op(7), 2);
        due.is("op of sides of 15 and 4 parts", x.op(0), FULL);
        due.is("it changes nothing", x.count(5), 2);
        due.is("op 7 behind that", x.op(7), 2);
        x.clear(0);
        for (int k = 1; k <= 6; k++) {
            Made.top(x, k == 6 ? 1 : 15);
            due.is("tops", x.count(5), k);
        }
        due.is("seventh number", x.number(1), FULL);
        due.is("seventh part", x.part(0, 0, 0), FULL);
        due.is("part, BAD ahead of FULL", x.part(1, 0, 0), BAD);
        for (int k = 2; k <= 15; k++) {
            due.is("sixth top, part " + k, x.op(7), 6);
        }
        for (int op = 0; op < 8; op++) {
            due.is("op of six of 15 parts", x.op(op), FULL);
        }
        due.is("condition of six", x.condition(), STATE);
        due.is("six went", x.clear(0), 6);
    }

    private static void partsOfBothSides() {
        for (int left = 1; left <= 15; left++) {
            for (int right = 1; right <= 15; right++) {
                PerhapsWas x = new PerhapsWas();
                x.number(5);
                Made.top(x, left);
                Made.top(x, right);
                String told = "op of " + left + " and " + right + " parts";
                boolean fits = left + right + 1 <= 15;
                due.is(told, x.op(1), fits ? 2 : FULL);
                due.is(told + ", tops", x.count(5), fits ? 2 : 3);
                due.is(told + ", op 7 behind", x.op(7), right == 15 || left + right + 1 == 15 ? FULL : fits ? 2 : 3);
            }
        }
    }

    /** Each side keeps its own parts, however many lie below and above it. */
    private static void sidesOfSeveral() {
        PerhapsWas x = new PerhapsWas();
        Made.top(x, 5);
        Made.top(x, 3);
        x.number(10);
        x.number(4);
        due.is("10 - 4", x.op(1), 3);
        due.is("2 - 6", x.op(1), 2);
        due.is("3 * -4", x.op(2), 1);
        due.is("condition", x.condition(), 0);
        due.is("its value", x.value(0, 0), -12);
        x.number(7);
        x.number(9);
        due.is("another one on the same pile", x.op(0), 1);
        due.is("condition 1", x.condition(), 1);
        due.is("value 1", x.value(1, 0), 16);
        due.is("value 0, as it was", x.value(0, 0), -12);
    }

    private static void condition() {
        PerhapsWas x = new PerhapsWas();
        due.is("condition of none", x.condition(), STATE);
        x.number(1);
        x.number(2);
        due.is("condition of two", x.condition(), STATE);
        x.op(0);
        due.is("condition", x.condition(), 0);
        due.is("it goes from the pile", x.count(5), 0);
        for (int c = 1; c < 8; c++) {
            due.is("condition " + c, Made.constant(x, 10 + c), c);
        }
        due.is("condition of none, STATE ahead of FULL", x.condition(), STATE);
        x.number(99);
        due.is("ninth condition", x.condition(), FULL);
        due.is("it stays on the pile", x.count(5), 1);
        due.is("count(4)", x.count(4), 8);
        due.is("the first one's value", x.value(0, 0), 3);
        due.is("the last one's value", x.value(7, 0), 17);
    }

    private static void clear() {
        PerhapsWas x = new PerhapsWas();
        due.is("clear(0) of nothing", x.clear(0), 0);
        due.is("clear(1) of nothing", x.clear(1), 0);
        Made.constant(x, 5);
        Made.constant(x, 6);
        x.number(1);
        x.number(2);
        x.number(3);
        x.op(0);
        due.is("clear(2)", x.clear(2), BAD);
        due.is("clear(-1)", x.clear(-1), BAD);
        due.is("BAD changes nothing", x.count(5), 2);
        due.is("clear(0)", x.clear(0), 2);
        due.is("the pile is empty", x.count(5), 0);
        due.is("the conditions stay", x.count(4), 2);
        due.is("as they were", x.value(1, 0), 6);
        x.number(1);
        due.is("clear(1)", x.clear(1), 3);
        due.is("no conditions", x.count(4), 0);
        due.is("none on the pile", x.count(5), 0);
        due.is("condition 0 is no more", x.may(0), NONE);
        due.is("numbers begin again", Made.constant(x, 7), 0);
        due.is("with its own value", x.value(0, 0), 7);
    }

    private static void value() {
        PerhapsWas x = grid();
        Made.conditionAt(x, 1, 2);
        due.is("status() at first", x.status(), 0);
        due.is("value at no cut", x.value(0, 3), 0);
        due.is("status() NONE", x.status(), NONE);
        due.is("it stays", x.may(0), 15);
        due.is("status() still NONE", x.status(), NONE);
        due.is("value", x.value(0, 15), 1);
        due.is("status() 0 again", x.status(), 0);
        due.is("value of no condition", x.value(1, 0), 0);
        due.is("status() NONE again", x.status(), NONE);
        due.is("value 0", x.value(0, 0), 0);
        due.is("status() 0 for a value 0", x.status(), 0);
        int[] none = {-1, LOW, 2401, HIGH, 49};
        for (int cut : none) {
            x.value(0, 0);
            due.is("value(0, " + cut + ")", x.value(0, cut), 0);
            due.is("its status()", x.status(), NONE);
        }
    }

    private static void parts() {
        PerhapsWas x = Made.with(1);
        x.part(1, 0, 1);
        x.condition();
        x.part(2, 3, 0);
        x.condition();
        x.part(0, 2, 1);
        x.condition();
        for (int c = 0; c < 3; c++) {
            due.is("of no process yet " + c, x.value(c, 0), 0);
            due.is("its status()", x.status(), 0);
        }
        x.process();
        x.process();
        x.process();
        x.send(0, 1);
        x.send(0, 1);
        x.send(1, 0);
        x.send(0, 2);
        x.take(1);
        x.own(2, 1, 8, 0);
        x.own(3, 1, 8, 0);
        due.is("none sent", x.value(0, 0), 0);
        due.is("one under way", x.value(0, 1), 1);
        due.is("two under way", x.value(0, 2), 2);
        due.is("not those to others", x.value(0, 3), 2);
        due.is("sent, before the take", x.value(0, 2 + 7), 2);
        due.is("one taken", x.value(0, 2 + 14), 1);
        due.is("taken, not sent: not possible", x.value(0, 1 + 14), 1);
        due.is("that is not possible", x.possible(1 + 14), 0);
        due.is("events of 3", x.value(1, 343), 1);
        due.is("no events of 3", x.value(1, 49), 0);
        due.is("name 1 of 2", x.value(2, 49), 8);
        due.is("name 1 of 2 at first", x.value(2, 343), 0);
    }

    private static void mayLastMany() {
        PerhapsWas x = grid();
        int two = Made.conditionAtTwo(x, 1, 2, 2, 0);
        due.is("may: by size", x.may(two), 2);
        due.is("last", x.last(two), 15);
        due.is("many", x.many(two), 2);
        int none = Made.constant(x, 0);
        due.is("may, nowhere", x.may(none), NONE);
        due.is("last, nowhere", x.last(none), NONE);
        due.is("many, nowhere", x.many(none), 0);
        int all = Made.constant(x, -1);
        due.is("may, everywhere", x.may(all), 0);
        due.is("last, everywhere", x.last(all), 16);
        due.is("many, everywhere", x.many(all), 9);
        int level = Made.conditionAtTwo(x, 0, 1, 1, 0);
        due.is("may: then by number", x.may(level), 1);
        due.is("last: then by number", x.last(level), 7);
        x.wait(1, 0);
        int late = Made.conditionAt(x, 1, 3);
        due.is("not at cuts that are not possible", x.may(late), NONE);
        due.is("nor last", x.last(late), NONE);
        due.is("nor counted", x.many(late), 0);
        due.is("though it holds there", x.value(late, 22), 1);
    }

    private static void sureAvoidAvoids() {
        PerhapsWas x = grid();
        int middle = Made.conditionAt(x, 1, 1);
        due.is("sure, middle", x.sure(middle), 0);
        due.is("avoids, middle", x.avoids(middle), 2);
        int[] first = {0, 0, 1, 1};
        for (int i = 0; i < 4; i++) {
            due.is("avoid, middle " + i, x.avoid(middle, i), first[i]);
        }
        due.is("avoid, i 4", x.avoid(middle, 4), NONE);
        due.is("avoid, i -1", x.avoid(middle, -1), NONE);
        int start = Made.conditionAt(x, 0, 0);
        int end = Made.conditionAt(x, 2, 2);
        int never = Made.constant(x, 0);
        due.is("sure at the start", x.sure(start), 1);
        due.is("sure at the end", x.sure(end), 1);
        due.is("never sure", x.sure(never), 0);
        due.is("avoids the start", x.avoids(start), 0);
        due.is("avoids the end", x.avoids(end), 0);
        due.is("avoids nothing", x.avoids(never), 6);
        due.is("avoid the end", x.avoid(end, 0), NONE);
        due.is("avoid nothing", x.avoid(never, 0), 0);
        int side = Made.conditionAt(x, 1, 0);
        due.is("avoid, side", x.avoid(side, 0), 1);
        due.is("avoids, side", x.avoids(side), 3);
        x.part(2, 0, 0);
        x.part(2, 1, 0);
        x.op(0);
        x.number(2);
        x.op(4);
        int level = x.condition();
        due.is("sure, all of a size", x.sure(level), 1);
        due.is("avoids, all of a size", x.avoids(level), 0);
        PerhapsWas empty = new PerhapsWas();
        Made.constant(empty, 0);
        Made.constant(empty, 1);
        due.is("without events, not sure", empty.sure(0), 0);
        due.is("without events, sure", empty.sure(1), 1);
        due.is("without events, avoids", empty.avoids(0), 1);
        due.is("without events, avoid", empty.avoid(0, 0), NONE);
    }

    private static void is() {
        PerhapsWas x = grid();
        int[][] conditions = {
            {Made.conditionAtTwo(x, 0, 1, 1, 0), 0, 0, 0},
            {Made.conditionAt(x, 1, 1), 0, 1, 1},
            {Made.conditionAt(x, 2, 2), 1, 1, 1},
            {Made.conditionAtTwo(x, 0, 0, 2, 1), 0, 1, 1},
            {Made.constant(x, 0), 1, 1, 1},
            {Made.constant(x, 1), 1, 1, 1},
        };
        for (int[] c : conditions) {
            for (int what = 0; what < 3; what++) {
                due.is("is(" + c[0] + ", " + what + ")", x.is(c[0], what), c[1 + what]);
            }
        }
        due.is("is, what 3", x.is(0, 3), NONE);
        due.is("is, what -1", x.is(0, -1), NONE);
        x.clear(1);
        x.part(2, 0, 0);
        x.part(2, 1, 0);
        x.op(6);
        x.condition();
        due.is("one has begun: kept", x.is(0, 0), 1);
        due.is("one has begun: not met", x.is(0, 1), 0);
        due.is("one has begun: joined", x.is(0, 2), 1);
        x.part(2, 0, 0);
        x.part(2, 1, 0);
        x.op(5);
        x.op(7);
        x.condition();
        due.is("one has not begun: not kept", x.is(1, 0), 0);
        due.is("one has not begun: met", x.is(1, 1), 1);
        due.is("one has not begun: not joined", x.is(1, 2), 0);
    }

    private static void before() {
        PerhapsWas x = grid();
        int start = Made.conditionAt(x, 0, 0);
        int middle = Made.conditionAt(x, 1, 1);
        int end = Made.conditionAt(x, 2, 2);
        int never = Made.constant(x, 0);
        int always = Made.constant(x, 1);
        due.is("start before end", x.before(start, end), 1);
        due.is("end not before start", x.before(end, start), 0);
        due.is("that very one", x.before(middle, middle), 1);
        due.is("not on each order", x.before(middle, end), 0);
        due.is("before one that never is", x.before(never, never), 1);
        due.is("one that never is", x.before(never, end), 0);
        due.is("before all", x.before(always, always), 1);
        due.is("end before all", x.before(end, always), 0);
        int around = Made.conditionAtTwo(x, 0, 0, 2, 2);
        due.is("each of them, not only the last", x.before(middle, around), 0);
        due.is("orders without d do not matter", x.before(Made.conditionAt(x, 1, 0), Made.conditionAt(x, 2, 0)), 1);
    }

    private static void largest() {
        PerhapsWas x = Made.full();
        int all = Made.constant(x, 1);
        int none = Made.constant(x, 0);
        x.part(0, 0, 2);
        x.part(0, 1, 2);
        x.op(0);
        x.part(0, 2, 2);
        x.op(0);
        x.part(0, 3, 2);
        x.op(0);
        x.number(23);
        x.op(3);
        x.op(7);
        int late = x.condition();
        due.is("largest: many", x.many(all), 2401);
        due.is("largest: last", x.last(all), 2400);
        due.is("largest: many, late", x.many(late), 5);
        due.is("largest: may, late", x.may(late), 2057);
        due.is("largest: avoids", x.avoids(none), 2308743493056L);
        due.is("largest: avoid", x.avoid(none, 23), 3);
        due.is("largest: sure", x.sure(late), 1);
        due.is("largest: before", x.before(all, late), 1);
        due.is("largest: not before", x.before(late, all), 0);
        due.is("largest: never before", x.before(none, late), 0);
        int[][] want = {{1, 1, 1}, {1, 1, 1}, {1, 0, 1}};
        for (int c = 0; c < 3; c++) {
            for (int what = 0; what < 3; what++) {
                due.is("largest: is(" + c + ", " + what + ")", x.is(c, what), want[c][what]);
            }
        }
    }

    private static void noSuchCondition() {
        PerhapsWas x = grid();
        Made.constant(x, 1);
        int[] none = {1, -1, 8, LOW, HIGH};
        for (int c : none) {
            due.is("may(" + c + ")", x.may(c), NONE);
            due.is("last(" + c + ")", x.last(c), NONE);
            due.is("many(" + c + ")", x.many(c), NONE);
            due.is("sure(" + c + ")", x.sure(c), NONE);
            due.is("avoid(" + c + ", 0)", x.avoid(c, 0), NONE);
            due.is("avoids(" + c + ")", x.avoids(c), NONE);
            due.is("is(" + c + ", 0)", x.is(c, 0), NONE);
            due.is("before(" + c + ", 0)", x.before(c, 0), NONE);
            due.is("before(0, " + c + ")", x.before(0, c), NONE);
            due.is("passes(" + c + ")", x.passes(c), NONE);
            due.is("value(" + c + ", 0)", x.value(c, 0), 0);
            due.is("status()", x.status(), NONE);
        }
    }
}
