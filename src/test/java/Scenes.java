/** Runs of calls that more than one test starts from. */
final class Scenes {
    /** How many calls {@link #everythingInUse} makes. */
    static final int CALLS_IN_USE = 51;

    private Scenes() {
    }

    /** Working frames in which all pixels of a frame differ: pixel (x, y) of frame f is 64 * f + 8 * y + x. */
    static void countedFrames(TemporalLift t) {
        for (int f = 0; f < 4; f++) {
            t.ramp(f, 1, 8, 64 * f);
        }
    }

    /** Gives the twelve vectors the steps first, first + 1 and so on, modulo 25. */
    static void countedVectors(TemporalLift t, int first) {
        for (int i = 0; i < 12; i++) {
            t.setVector(i / 4, i % 4, (first + i) % 25);
        }
    }

    /**
     * Three groups that differ in every pixel and every vector: one in slot 0, one in slot 1 and in
     * the output, one in the working frames.
     */
    static void everythingInUse(TemporalLift t) {
        countedFrames(t);
        countedVectors(t, 0);
        t.encode(0);
        // 255 - p is never p nor p + 2, not modulo 256 either: where p is even it is odd.
        for (int f = 0; f < 4; f++) {
            t.ramp(f, -1, -8, 255 - 64 * f);
        }
        countedVectors(t, 5);
        t.encode(1);
        t.decode(1);
        for (int f = 0; f < 4; f++) {
            t.ramp(f, 1, 8, 64 * f + 2);
        }
        countedVectors(t, 13);
    }

    /** As above, but slot 1 is empty. */
    static void slotOneEmpty(TemporalLift t) {
        everythingInUse(t);
        t.erase(1);
    }
}
