import java.util.Arrays;

/** Promises 1 to 20 in long mixed runs: every answer of the class against that of the model. */
public final class LongRunsTest {
    private static final int CALLS = 512;
    private static final int[] STRANGE = {-9, -3, -2, -1, 3, 4, 5, 7, 8, 9, 24, 25, 26, 255, 256,
            Integer.MIN_VALUE, Integer.MAX_VALUE, 1 << 16, -(1 << 16)};

    /** The runs are made from fixed numbers, so that every session sees the same ones. */
    private long seed;

    private LongRunsTest(long seed) {
        this.seed = seed;
    }

    public static void main(String[] args) {
        for (int run = 0; run < 2000; run++) {
            new LongRunsTest(run).mixedRun(run, run % 3 == 0 ? 25 : 4);
        }
        for (int run = 0; run < 500; run++) {
            new LongRunsTest(100_000 + run).tiedSearches(run);
        }
        Check.end();
    }

    private int below(int bound) {
        seed = seed * 6364136223846793005L + 1442695040888963407L;
        return (int) Math.floorMod(seed >>> 33, (long) bound);
    }

    /** A number in 0 .. most, or, once in a while, one that is strange there. */
    private int mostly(int most, int strangeInHundred) {
        return below(100) < strangeInHundred ? STRANGE[below(STRANGE.length)] : below(most + 1);
    }

    private void mixedRun(int run, int strange) {
        TemporalLift t = new TemporalLift();
        Model m = new Model();
        for (int i = 0; i < CALLS; i++) {
            int[] call = {below(19), 0, 0, 0, 0};
            chooseArguments(call, strange);
            Check.same("run " + run + ", call " + i + ", " + Arrays.toString(call), ask(t, call), ask(m, call));
        }
    }

    private void chooseArguments(int[] call, int strange) {
        int kind = call[0];
        boolean ofFrame = kind <= 5 || kind == 15 || kind == 18;
        boolean ofLink = kind == 6 || kind == 7 || kind == 9 || kind == 16;
        call[1] = mostly(ofFrame ? 3 : ofLink ? 2 : 1, strange);
        if (kind == 1 || kind == 3) {
            for (int i = 2; i < 5; i++) {
                call[i] = below(4) == 0 ? below(Integer.MAX_VALUE) * (below(2) * 2 - 1) : mostly(12, 10) - 6;
            }
        } else if (kind == 2) {
            call[2] = mostly(16, strange) - 8;
            call[3] = mostly(16, strange) - 8;
        } else if (ofLink) {
            call[2] = mostly(3, strange);
            call[3] = mostly(24, strange);
        } else {
            call[2] = mostly(7, strange);
            call[3] = mostly(7, strange);
            call[4] = mostly(255, 10);
        }
    }

    private static int ask(TemporalLift t, int[] c) {
        switch (c[0]) {
            case 0: return t.put(c[1], c[2], c[3], c[4]);
            case 1: return t.ramp(c[1], c[2], c[3], c[4]);
            case 2: return t.drift(c[1], c[2], c[3]);
            case 3: return t.roughen(c[1], c[2]);
            case 4: return t.invert(c[1], c[2], c[3]);
            case 5: return t.pixel(c[1], c[2], c[3]);
            case 6: return t.cost(c[1], c[2], c[3]);
            case 7: return t.setVector(c[1], c[2], c[3]);
            case 8: return t.search();
            case 9: return t.vector(c[1], c[2]);
            case 10: return t.encode(c[1]);
            case 11: return t.decode(c[1]);
            case 12: return t.erase(c[1]);
            case 13: return t.copySlot(c[1]);
            case 14: return t.filled(c[1]);
            case 15: return t.out(c[1], c[2], c[3]);
            case 16: return t.outVector(c[1], c[2]);
            case 17: t.adopt(); return 0;
            default: return t.difference(c[1]);
        }
    }

    private static int ask(Model m, int[] c) {
        switch (c[0]) {
            case 0: return m.put(c[1], c[2], c[3], c[4]);
            case 1: return m.ramp(c[1], c[2], c[3], c[4]);
            case 2: return m.drift(c[1], c[2], c[3]);
            case 3: return m.roughen(c[1], c[2]);
            case 4: return m.invert(c[1], c[2], c[3]);
            case 5: return m.pixel(c[1], c[2], c[3]);
            case 6: return m.cost(c[1], c[2], c[3]);
            case 7: return m.setVector(c[1], c[2], c[3]);
            case 8: return m.search();
            case 9: return m.vector(c[1], c[2]);
            case 10: return m.encode(c[1]);
            case 11: return m.decode(c[1]);
            case 12: return m.erase(c[1]);
            case 13: return m.copySlot(c[1]);
            case 14: return m.filled(c[1]);
            case 15: return m.out(c[1], c[2], c[3]);
            case 16: return m.outVector(c[1], c[2]);
            case 17: m.adopt(); return 0;
            default: return m.difference(c[1]);
        }
    }

    /** Frames with a few pixels set to one of two values: costs are often the same there. */
    private void tiedSearches(int run) {
        TemporalLift t = new TemporalLift();
        Model m = new Model();
        int lit = 4 + below(60);
        for (int i = 0; i < lit; i++) {
            int[] put = {0, below(4), below(8), below(8), 1 + below(2)};
            Check.same("tied run " + run, ask(t, put), ask(m, put));
        }
        Check.same("tied run " + run + ", search()", t.search(), m.search());
        for (int i = 0; i < 12; i++) {
            Check.same("tied run " + run + ", vector " + i, t.vector(i / 4, i % 4), m.vector(i / 4, i % 4));
        }
        t.encode(run % 2);
        t.decode(run % 2);
        for (int f = 0; f < 4; f++) {
            Check.same("tied run " + run + ", difference(" + f + ")", t.difference(f), 0);
        }
        for (int i = 0; i < 12; i++) {
            Check.same("tied run " + run + ", outVector " + i, t.outVector(i / 4, i % 4), m.vector(i / 4, i % 4));
        }
    }
}
