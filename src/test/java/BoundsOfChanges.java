import java.util.ArrayList;
import java.util.List;
import java.util.function.Consumer;
import java.util.function.Supplier;
import java.util.function.ToLongFunction;

/**
 * The questions, at the edge between two calls: an answer is that of the object as it is now, whatever was asked
 * ahead of the last change. Each is held against one that was asked nothing else.
 */
final class BoundsOfChanges {
    private record Question(int promise, String words, ToLongFunction<PerhapsWas> asked) { }

    private static final List<Consumer<PerhapsWas>> CHANGES = List.of(
            x -> x.count(0),
            x -> x.undo(),
            x -> x.own(1, 2, 3, 1),
            x -> x.send(2, 0),
            x -> x.take(0),
            x -> x.wait(1, 0),
            x -> x.process(),
            x -> x.say(1),
            x -> {
                x.undo();
                x.own(0, 2, 5, 0);
            },
            x -> {
                x.undo();
                x.undo();
                x.send(1, 0);
                x.wait(2, 1);
            },
            x -> {
                x.clear(1);
                Made.conditionAt(x, 1, 1);
                Made.constant(x, 1);
                Made.ofPart(x, 1, 1, 2);
            });

    private final List<Question> questions = new ArrayList<>();

    private BoundsOfChanges() {
        ofEventsAndCuts();
        ofConditions();
    }

    static void all(Bounds b) {
        BoundsOfChanges changes = new BoundsOfChanges();
        for (Question question : changes.questions) {
            b.sentence(question.promise, question.words);
            for (int k = 0; k < CHANGES.size(); k++) {
                changes.asked(b, question.asked, k);
            }
        }
    }

    /** Room for each change, and conditions that hold at some cuts, at all, and nowhere. */
    private static PerhapsWas start() {
        PerhapsWas x = Made.allKinds();
        Made.conditionAtTwo(x, 1, 0, 2, 2);
        Made.constant(x, 1);
        Made.ofPart(x, 1, 1, 2);
        Made.constant(x, 0);
        x.say(0);
        return x;
    }

    private void asked(Bounds b, ToLongFunction<PerhapsWas> asked, int change) {
        Supplier<PerhapsWas> changed = () -> {
            PerhapsWas y = start();
            CHANGES.get(change).accept(y);
            return y;
        };
        PerhapsWas x = start();
        askAll(x);
        CHANGES.get(change).accept(x);
        b.is("behind all questions and change " + change, asked.applyAsLong(x), asked.applyAsLong(changed.get()));
        PerhapsWas z = changed.get();
        askAll(z);
        b.is("behind change " + change + " and all questions", asked.applyAsLong(z), asked.applyAsLong(changed.get()));
    }

    private void askAll(PerhapsWas x) {
        for (Question question : questions) {
            question.asked.applyAsLong(x);
        }
    }

    private void add(int promise, String words, ToLongFunction<PerhapsWas> asked) {
        questions.add(new Question(promise, words, asked));
    }

    private void ofEventsAndCuts() {
        add(8, "Of an EVENT what 0: 0 OWN, 1 ADD, 2 SEND, 3 TAKE, 4 WAIT;", x -> x.event(0, 3, 0));
        add(9, "Of a LETTER what 0 from, 1 to, 2 the EVENT that sent,", x -> x.letter(2, 0));
        add(9, "3 that took it (NONE: none).", x -> x.letter(0, 3));
        add(10, "3: they are BESIDE;", x -> x.ahead(0, 3, 1, 1));
        add(11, "The CLOCK of an EVENT for a PROCESS.", x -> x.clock(1, 2, 0));
        add(12, "Whether a CUT is POSSIBLE: 1, 0.", x -> x.possible(2 + 7 * 2));
        add(12, "Whether a CUT is POSSIBLE: 1, 0.", x -> x.possible(3 + 7 * 3));
        add(13, "How many CUTS are POSSIBLE, of a SIZE (-1: of all).", x -> x.cuts(-1));
        add(13, "How many CUTS are POSSIBLE, of a SIZE (-1: of all).", x -> x.cuts(6));
        add(14, "The next POSSIBLE CUT behind this one, in order (-1: the first of all): its number.", x -> x.next(2 + 7));
        add(14, "NONE: there is none, too.", x -> x.next(4 + 7 * 2));
        add(15, "The JOIN (meet 1: the MEET) of two CUTS.", x -> x.join(3, 7, 0));
        add(16, "The least POSSIBLE CUT with the first i EVENTS of p in it: its number.", x -> x.least(1, 3));
        add(17, "How many ORDERS there are;", x -> x.orders());
        add(18, "The PROCESS of EVENT i of ORDER n, both from 0 on", x -> x.order(1, 3));
        add(18, "NONE: none such, n is 10^18 or more.", x -> x.order(0, 6));
        add(37, "Of all what 0 PROCESSES, 1 EVENTS,", x -> x.count(1));
    }

    private void ofConditions() {
        add(24, "What a CONDITION is at a CUT, POSSIBLE or not;", x -> x.value(2, 7));
        for (int k = 0; k < 4; k++) {
            int c = k;
            add(26, "The first POSSIBLE CUT at which it HOLDS: its number.", x -> x.may(c));
            add(27, "The last one.", x -> x.last(c));
            add(28, "At how many POSSIBLE CUTS it HOLDS.", x -> x.many(c));
            add(29, "Whether it SURELY was: 1, 0.", x -> x.sure(c));
            add(30, "The PROCESS of EVENT i of the first ORDER", x -> x.avoid(c, 4));
            add(31, "How many ORDERS PASS no CUT at which it HOLDS;", x -> x.avoids(c));
            add(32, "Of a CONDITION what 0 whether it is KEPT,", x -> x.is(c, 0));
            add(32, "1 MET,", x -> x.is(c, 1));
            add(32, "2 JOINED: 1, 0.", x -> x.is(c, 2));
            add(33, "Whether each ORDER that PASSES a CUT at which d HOLDS", x -> x.before(c, 1));
            add(33, "PASSES one at which c HOLDS ahead of it,", x -> x.before(0, c));
            add(36, "behind how many of its EVENTS the CONDITION HOLDS first;", x -> x.passes(c));
        }
        add(30, "NONE: none such.", x -> x.avoid(4, 0));
        add(30, "NONE: none such.", x -> x.avoid(-1, 0));
    }
}
