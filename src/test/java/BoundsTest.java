/**
 * Every sentence of the document at its edges: too small, too large, empty, full, a wrap-around, a refused call.
 * Each test opens with the promise's number and the sentence; a sentence that no test opens with is told at the end.
 */
public final class BoundsTest {
    public static void main(String[] args) {
        Bounds b = new Bounds();
        BoundsOfTerms.all(b);
        BoundsOfConditionTerms.all(b);
        BoundsOfRefusals.all(b);
        BoundsOfEvents.all(b);
        BoundsOfCuts.all(b);
        BoundsOfConditions.all(b);
        BoundsOfRow.all(b);
        BoundsOfChanges.all(b);
        b.end();
    }
}
