import java.util.ArrayList;
import java.util.List;

/** All that an object tells of itself. Looking uses up its pile, row and conditions, and at most 420 of its calls. */
final class Seen {
    private static final int NONE = PerhapsWas.NONE;

    private final PerhapsWas x;
    private final List<Long> seen = new ArrayList<>();
    private int whole;

    private Seen(PerhapsWas x) {
        this.x = x;
    }

    static List<Long> of(PerhapsWas x) {
        Seen look = new Seen(x);
        look.counts();
        look.events();
        look.letters();
        look.conditions();
        look.row();
        look.pile();
        look.values();
        return look.seen;
    }

    private void add(long answer) {
        seen.add(answer);
    }

    private void counts() {
        add(x.status());
        for (int what = 0; what <= 6; what++) {
            add(x.count(what));
        }
        add(x.cuts(-1));
        add(x.orders());
    }

    private void events() {
        for (int p = 0; p < 4; p++) {
            for (int i = 0; i <= 6 && x.event(p, i, 0) != NONE; i++) {
                for (int what = 0; what < 3; what++) {
                    add(x.event(p, i, what));
                }
                add(x.least(p, i + 1));
                whole += Made.WEIGHTS[p];
            }
        }
    }

    private void letters() {
        for (int l = 0; l < x.count(2); l++) {
            for (int what = 0; what < 4; what++) {
                add(x.letter(l, what));
            }
        }
    }

    private void conditions() {
        for (int c = 0; c < x.count(4); c++) {
            add(x.many(c));
            add(x.may(c));
            add(x.avoids(c));
            add(x.value(c, 0));
            add(x.value(c, whole));
            add(x.passes(c));
        }
    }

    private void row() {
        add(x.check());
        add(x.count(6));
    }

    /** Where there are 8 conditions, nothing tells what is on the pile but how many. */
    private void pile() {
        while (x.count(5) > 1 && x.op(1) > 0) {
            add(x.count(5));
        }
        int c = x.condition();
        add(c);
        add(x.value(c, 0));
        add(x.value(c, whole));
        add(x.clear(1));
    }

    private void values() {
        for (int p = 0; p < 4; p++) {
            for (int name = 0; name < 3; name++) {
                add(x.value(Made.ofPart(x, 0, p, name), whole));
                x.clear(1);
            }
        }
    }
}
