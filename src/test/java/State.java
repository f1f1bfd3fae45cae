import java.util.function.Consumer;

/**
 * All that can be seen of an object after a run of calls.
 *
 * <p>The run is made anew on four objects, for no object may be used for more than 512 calls and
 * looking at one group of frames takes 256 of them.
 */
final class State {
    static final int GROUP = 256 + 12;
    static final int WORK = 0;
    static final int OUT = GROUP;
    static final int FILLED = 2 * GROUP;
    static final int DECODED = 2 * GROUP + 2;
    static final int LENGTH = DECODED + 2 * (1 + GROUP);

    private State() {
    }

    static int[] after(Consumer<TemporalLift> run) {
        int[] seen = new int[LENGTH];
        lookAtWork(made(run), seen);
        TemporalLift x = made(run);
        lookAtOut(x, seen, OUT);
        seen[FILLED] = x.filled(0);
        seen[FILLED + 1] = x.filled(1);
        for (int slot = 0; slot < 2; slot++) {
            int start = DECODED + slot * (1 + GROUP);
            TemporalLift z = made(run);
            seen[start] = z.decode(slot);
            lookAtOut(z, seen, start + 1);
        }
        return seen;
    }

    static String nameOf(int at) {
        if (at < OUT) {
            return "working " + nameInGroup(at);
        }
        if (at < FILLED) {
            return "output " + nameInGroup(at - OUT);
        }
        if (at < DECODED) {
            return "filled " + (at - FILLED);
        }
        int slot = (at - DECODED) / (1 + GROUP);
        int inSlot = (at - DECODED) % (1 + GROUP);
        return "slot " + slot + (inSlot == 0 ? " decode's answer" : " decoded " + nameInGroup(inSlot - 1));
    }

    /** Where in a group, from its start, the pixel of frame f at (x, y) stands. */
    static int pixelPlace(int f, int x, int y) {
        return 64 * f + 8 * y + x;
    }

    static int vectorPlace(int link, int block) {
        return 256 + 4 * link + block;
    }

    private static String nameInGroup(int at) {
        return at < 256
                ? "pixel (" + at / 64 + ", " + at % 8 + ", " + at % 64 / 8 + ")"
                : "vector (" + (at - 256) / 4 + ", " + (at - 256) % 4 + ")";
    }

    private static TemporalLift made(Consumer<TemporalLift> run) {
        TemporalLift x = new TemporalLift();
        run.accept(x);
        return x;
    }

    private static void lookAtWork(TemporalLift t, int[] seen) {
        for (int f = 0; f < 4; f++) {
            for (int y = 0; y < 8; y++) {
                for (int x = 0; x < 8; x++) {
                    seen[WORK + pixelPlace(f, x, y)] = t.pixel(f, x, y);
                }
            }
        }
        for (int link = 0; link < 3; link++) {
            for (int block = 0; block < 4; block++) {
                seen[WORK + vectorPlace(link, block)] = t.vector(link, block);
            }
        }
    }

    private static void lookAtOut(TemporalLift t, int[] seen, int start) {
        for (int f = 0; f < 4; f++) {
            for (int y = 0; y < 8; y++) {
                for (int x = 0; x < 8; x++) {
                    seen[start + pixelPlace(f, x, y)] = t.out(f, x, y);
                }
            }
        }
        for (int link = 0; link < 3; link++) {
            for (int block = 0; block < 4; block++) {
                seen[start + vectorPlace(link, block)] = t.outVector(link, block);
            }
        }
    }
}
