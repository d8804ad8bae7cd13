/** The seeds that follow one another from a draw, worked out by the document's words alone. */
final class Seeds {
    private Seeds() { }

    static int after(int draw, int draws) {
        int seed = draw;
        for (int i = 0; i < draws; i++) seed = (137 * seed + 71) % 1000;
        return seed;
    }

    /**
     * The least draw by which, with wide 0, ships that report once each fall into these slots ahead of frame 1:
     * each ship draws for the slot round which it chooses, for the choice, and for its left.
     */
    static int drawFor(int slots, int... wanted) {
        for (int draw = 0; draw < 1000; draw++) {
            boolean all = true;
            for (int i = 0; i < wanted.length; i++) all &= after(draw, 3 * i + 1) % slots == wanted[i];
            if (all) return draw;
        }
        throw new IllegalArgumentException("no draw leads there");
    }

    /** The least draw whose next seeds have these rests by these divisors. */
    static int drawBy(int[] divisors, int... rests) {
        for (int draw = 0; draw < 1000; draw++) {
            boolean all = true;
            for (int i = 0; i < rests.length; i++) all &= after(draw, i + 1) % divisors[i] == rests[i];
            if (all) return draw;
        }
        throw new IllegalArgumentException("no draw leads there");
    }
}
