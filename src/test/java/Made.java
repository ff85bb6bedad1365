/** Objects that several tests begin with. */
final class Made {
    private Made() {
    }

    static PerhapsWas with(int processes) {
        PerhapsWas x = new PerhapsWas();
        for (int p = 0; p < processes; p++) {
            x.process();
        }
        return x;
    }

    /** All events that there can be, each an ADD of 1 to name 2; those of two processes are beside. */
    static PerhapsWas full() {
        PerhapsWas x = with(4);
        for (int p = 0; p < 4; p++) {
            fill(x, p);
        }
        return x;
    }

    static void fill(PerhapsWas x, int p) {
        for (int i = 0; i < 6; i++) {
            x.own(p, 2, 1, 1);
        }
    }
}
