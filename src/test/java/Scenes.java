/** Runs of calls that more than one test starts from. */
final class Scenes {
    private Scenes() {
    }

    /** Working frames in which all pixels of a frame differ: pixel (x, y) of frame f is 64 * f + 8 * y + x. */
    static void countedFrames(TemporalLift t) {
        for (int f = 0; f < 4; f++) {
            t.ramp(f, 1, 8, 64 * f);
        }
    }

    /** Gives the twelve vectors the steps first, first + 1 and so on, modulo 25. */
    static void countedVectors(TemporalLift t, int first) {
        for (int i = 0; i < 12; i++) {
            t.setVector(i / 4, i % 4, (first + i) % 25);
        }
    }

    /** Working, output and both slots all hold something, and each something else. */
    static void everythingInUse(TemporalLift t) {
        countedFrames(t);
        countedVectors(t, 0);
        t.encode(0);
        t.roughen(1, 7);
        t.invert(2, 3, 3);
        countedVectors(t, 5);
        t.encode(1);
        t.roughen(0, 3);
        t.drift(3, 1, -1);
        t.decode(1);
        t.ramp(1, 5, 9, 100);
        countedVectors(t, 13);
    }

    /** As above, but slot 1 is empty. */
    static void slotOneEmpty(TemporalLift t) {
        everythingInUse(t);
        t.erase(1);
    }
}
