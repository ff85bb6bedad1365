import java.util.function.Supplier;
import java.util.function.ToLongFunction;

/** Answers at the edges that the document names, each told with its promise and sentence. */
final class Bounds {
    static final int LOW = Integer.MIN_VALUE, HIGH = Integer.MAX_VALUE;

    private final Due due = new Due("BoundsTest");
    private final Doc doc = new Doc();
    private String sentence = "";

    /** What comes is about these words of the promise (0: the terms); they must stand there. */
    void sentence(int promise, String words) {
        sentence = (promise == 0 ? "Terms" : "Promise " + promise) + ", '" + words + "': ";
        due.holds(sentence + "stands in the document", doc.quote(promise, words));
    }

    void is(String call, long got, long want) {
        due.is(sentence + call, got, want);
    }

    void holds(String what, boolean so) {
        due.holds(sentence + what, so);
    }

    /** The call is refused, and the object tells the same of itself as one that was not asked. */
    void refused(int want, String call, Supplier<PerhapsWas> made, ToLongFunction<PerhapsWas> asked) {
        PerhapsWas x = made.get();
        is(call, asked.applyAsLong(x), want);
        holds(call + " changes nothing", Seen.of(x).equals(Seen.of(made.get())));
    }

    /** Numbers of which none is from 0 to below n. */
    static int[] outside(int n) {
        return new int[] {-1, n, n + 1, -2, n + 256, n + 65536, -n - 1, LOW, LOW + 1, HIGH};
    }

    void end() {
        for (int promise = 0; promise <= Doc.PROMISES; promise++) {
            sentence = "";
            holds("promise " + promise + " has no test for: " + doc.left(promise), doc.left(promise).isEmpty());
        }
        due.end();
    }
}
