import java.util.function.Consumer;

/** Promises 2 to 7: put, ramp, drift, roughen, invert, pixel. */
public final class FramesTest {
    private static final int MIN = Check.MIN;
    private static final int MAX = Check.MAX;
    private static final int[] NO_FRAMES = {-1, 4, 5, MIN, MAX};
    private static final int[] NO_PLACES = {-1, 8, 9, MIN, MAX};
    private static final Consumer<TemporalLift> USED = Scenes::everythingInUse;

    public static void main(String[] args) {
        putTakesValuesModulo256();
        putChangesOnePixel();
        putRefuses();
        rampFillsTheFrame();
        rampWrapsAround();
        rampRefuses();
        driftMovesTheFrameBefore();
        driftReachesEight();
        driftRefuses();
        roughenAddsGrain();
        roughenTakesAnySeed();
        roughenRefuses();
        invertTurnsThreeByThree();
        invertStopsAtTheEdge();
        invertRefuses();
        pixelAnswers();
        pixelRefuses();
        Check.end();
    }

    private static void putTakesValuesModulo256() {
        int[] values = {0, 1, 128, 255, 256, 257, 511, 512, -1, -255, -256, -257, MIN, MIN + 1, MAX};
        int[] pixels = {0, 1, 128, 255, 0, 1, 255, 0, 255, 1, 0, 255, 0, 1, 255};
        TemporalLift t = new TemporalLift();
        int before = 0;
        for (int i = 0; i < values.length; i++) {
            Check.same("put(2, 3, 5, " + values[i] + ")", t.put(2, 3, 5, values[i]), before);
            Check.same("pixel after put of " + values[i], t.pixel(2, 3, 5), pixels[i]);
            before = pixels[i];
        }
    }

    private static void putChangesOnePixel() {
        int[] before = State.after(USED);
        for (int f = 0; f < 4; f++) {
            for (int corner = 0; corner < 4; corner++) {
                int x = corner % 2 == 0 ? 0 : 7;
                int y = corner < 2 ? 0 : 7;
                onePixelChanges(before, f, x, y);
            }
            onePixelChanges(before, f, 2, 5);
        }
    }

    private static void onePixelChanges(int[] before, int f, int x, int y) {
        int[] due = before.clone();
        due[State.pixelPlace(f, x, y)] = 77;
        Check.sameState("put(" + f + ", " + x + ", " + y + ", 77)",
                State.after(USED.andThen(t -> t.put(f, x, y, 77))), due);
    }

    private static void putRefuses() {
        TemporalLift t = new TemporalLift();
        for (int f : NO_FRAMES) {
            Check.same("put of frame " + f, t.put(f, 0, 0, 9), -1);
            Check.same("put of frame " + f + " with x wrong", t.put(f, 8, 0, 9), -1);
            Check.same("put of frame " + f + " with y wrong", t.put(f, 0, -1, 9), -1);
        }
        for (int place : NO_PLACES) {
            Check.same("put at x " + place, t.put(3, place, 0, 9), -2);
            Check.same("put at y " + place, t.put(0, 0, place, 9), -2);
            Check.same("put at x and y " + place, t.put(1, place, place, 9), -2);
        }
        Check.changesNothing("a refused put", USED, u -> {
            for (int f : NO_FRAMES) {
                u.put(f, 0, 0, 9);
            }
            for (int place : NO_PLACES) {
                u.put(1, place, 2, 9);
                u.put(1, 2, place, 9);
            }
        });
    }

    private static void rampFillsTheFrame() {
        for (int f = 0; f < 4; f++) {
            int frame = f;
            int[] due = State.after(USED);
            for (int y = 0; y < 8; y++) {
                for (int x = 0; x < 8; x++) {
                    due[State.pixelPlace(f, x, y)] = 3 * x + 20 * y + 5;
                }
            }
            Check.sameState("ramp(" + f + ", 3, 20, 5)", State.after(USED.andThen(t -> t.ramp(frame, 3, 20, 5))), due);
            Check.same("ramp(" + f + ", 3, 20, 5)", new TemporalLift().ramp(f, 3, 20, 5), 166);
        }
    }

    private static void rampWrapsAround() {
        TemporalLift t = new TemporalLift();
        Check.same("ramp(0, -1, 0, 0)", t.ramp(0, -1, 0, 0), 249);
        Check.same("pixel(0, 0, 7)", t.pixel(0, 0, 7), 0);
        Check.same("pixel(0, 1, 7)", t.pixel(0, 1, 7), 255);
        Check.same("ramp(0, 0, -1, 0)", t.ramp(0, 0, -1, 0), 249);
        Check.same("pixel(0, 7, 1)", t.pixel(0, 7, 1), 255);
        Check.same("ramp(1, 0, 0, 256)", t.ramp(1, 0, 0, 256), 0);
        Check.same("ramp(1, 0, 0, -1)", t.ramp(1, 0, 0, -1), 255);
        Check.same("ramp(2, MAX, MAX, MAX)", t.ramp(2, MAX, MAX, MAX), 241);
        Check.same("pixel(2, 0, 0)", t.pixel(2, 0, 0), 255);
        Check.same("pixel(2, 1, 1)", t.pixel(2, 1, 1), 253);
        Check.same("ramp(3, MIN, MIN, MIN)", t.ramp(3, MIN, MIN, MIN), 0);
        Check.same("ramp(3, 100, 200, 50)", t.ramp(3, 100, 200, 50), 2150 % 256);
        Check.same("pixel(3, 3, 0)", t.pixel(3, 3, 0), 94);
        Check.same("pixel(3, 0, 2)", t.pixel(3, 0, 2), 194);
    }

    private static void rampRefuses() {
        for (int f : NO_FRAMES) {
            Check.same("ramp of frame " + f, new TemporalLift().ramp(f, 1, 1, 1), -1);
            Check.changesNothing("ramp of frame " + f, USED, t -> t.ramp(f, 1, 1, 1));
        }
    }

    private static void driftMovesTheFrameBefore() {
        TemporalLift t = new TemporalLift();
        Scenes.countedFrames(t);
        Check.same("drift(1, 1, 2)", t.drift(1, 1, 2), 0);
        Check.same("pixel(1, 3, 4)", t.pixel(1, 3, 4), 2 + 8 * 2);
        Check.same("pixel(1, 0, 7)", t.pixel(1, 0, 7), 8 * 5);
        Check.same("pixel(1, 7, 0)", t.pixel(1, 7, 0), 6);
        Check.same("pixel(1, 7, 7)", t.pixel(1, 7, 7), 6 + 8 * 5);
        Check.same("drift(1, -1, -2)", t.drift(1, -1, -2), 1 + 8 * 2);
        Check.same("pixel(1, 7, 5)", t.pixel(1, 7, 5), 63);
        Check.same("pixel(1, 6, 4)", t.pixel(1, 6, 4), 7 + 8 * 6);
        Check.same("pixel(1, 7, 0)", t.pixel(1, 7, 0), 7 + 8 * 2);

        for (int f = 1; f < 4; f++) {
            int frame = f;
            int[] due = State.after(USED);
            for (int i = 0; i < 64; i++) {
                due[64 * f + i] = due[64 * f - 64 + i];
            }
            Check.sameState("drift(" + f + ", 0, 0)", State.after(USED.andThen(u -> u.drift(frame, 0, 0))), due);
        }
    }

    private static void driftReachesEight() {
        int[][] moves = {{8, 8, 0}, {-8, 8, 7}, {8, -8, 56}, {-8, -8, 63}};
        for (int[] move : moves) {
            TemporalLift t = new TemporalLift();
            Scenes.countedFrames(t);
            String name = "drift(2, " + move[0] + ", " + move[1] + ")";
            Check.same(name, t.drift(2, move[0], move[1]), 64 + move[2]);
            for (int i = 0; i < 64; i++) {
                Check.same("a pixel after " + name, t.pixel(2, i % 8, i / 8), 64 + move[2]);
            }
        }
    }

    private static void driftRefuses() {
        TemporalLift t = new TemporalLift();
        int[] noFrames = {0, -1, 4, MIN, MAX};
        int[] tooFar = {9, -9, 10, MIN, MAX};
        for (int f : noFrames) {
            Check.same("drift of frame " + f, t.drift(f, 0, 0), -1);
            Check.same("drift of frame " + f + ", too far", t.drift(f, 9, 9), -1);
            Check.changesNothing("drift of frame " + f, USED, u -> u.drift(f, 1, 1));
        }
        for (int far : tooFar) {
            Check.same("drift by dx " + far, t.drift(1, far, 0), -2);
            Check.same("drift by dy " + far, t.drift(3, 0, far), -2);
            Check.changesNothing("drift by dx " + far, USED, u -> u.drift(2, far, 1));
            Check.changesNothing("drift by dy " + far, USED, u -> u.drift(2, 1, far));
        }
    }

    private static void roughenAddsGrain() {
        for (int f = 0; f < 4; f++) {
            int frame = f;
            int[] due = State.after(USED);
            for (int i = 0; i < 64; i++) {
                due[64 * f + i] = (due[64 * f + i] + 5 * (i + 1) % 16) % 256;
            }
            Check.sameState("roughen(" + f + ", 5)", State.after(USED.andThen(t -> t.roughen(frame, 5))), due);
        }
        TemporalLift t = new TemporalLift();
        t.ramp(1, 0, 0, 250);
        Check.same("roughen(1, 1)", t.roughen(1, 1), 250);
        Check.same("pixel(1, 0, 0)", t.pixel(1, 0, 0), 251);
        Check.same("pixel(1, 4, 0)", t.pixel(1, 4, 0), 255);
        Check.same("pixel(1, 5, 0)", t.pixel(1, 5, 0), 0);
        Check.same("pixel(1, 6, 1)", t.pixel(1, 6, 1), 9);
        Check.same("pixel(1, 7, 1)", t.pixel(1, 7, 1), 250);
        t.put(1, 7, 7, 13);
        Check.same("roughen(1, 3)", t.roughen(1, 3), 13);
    }

    private static void roughenTakesAnySeed() {
        int[] seeds = {0, 16, -1, MAX, MIN, MAX - 1, -16};
        int[] atFirst = {0, 0, 15, 15, 0, 14, 0};
        int[] atSecond = {0, 0, 14, 14, 0, 12, 0};
        int[] inRowOne = {0, 0, 7, 7, 0, 14, 0};
        for (int i = 0; i < seeds.length; i++) {
            TemporalLift t = new TemporalLift();
            Check.same("roughen(3, " + seeds[i] + ")", t.roughen(3, seeds[i]), 0);
            Check.same("pixel(3, 0, 0) with seed " + seeds[i], t.pixel(3, 0, 0), atFirst[i]);
            Check.same("pixel(3, 1, 0) with seed " + seeds[i], t.pixel(3, 1, 0), atSecond[i]);
            Check.same("pixel(3, 0, 1) with seed " + seeds[i], t.pixel(3, 0, 1), inRowOne[i]);
        }
    }

    private static void roughenRefuses() {
        for (int f : NO_FRAMES) {
            Check.same("roughen of frame " + f, new TemporalLift().roughen(f, 1), -1);
            Check.changesNothing("roughen of frame " + f, USED, t -> t.roughen(f, 1));
        }
    }

    private static void invertTurnsThreeByThree() {
        for (int f = 0; f < 4; f++) {
            int frame = f;
            int[] due = State.after(USED);
            for (int y = 3; y <= 5; y++) {
                for (int x = 1; x <= 3; x++) {
                    due[State.pixelPlace(f, x, y)] = 255 - due[State.pixelPlace(f, x, y)];
                }
            }
            Check.sameState("invert(" + f + ", 1, 3)", State.after(USED.andThen(t -> t.invert(frame, 1, 3))), due);
        }
        TemporalLift t = new TemporalLift();
        t.put(2, 4, 4, 100);
        Check.same("invert(2, 3, 2)", t.invert(2, 3, 2), 9);
        Check.same("pixel(2, 4, 4)", t.pixel(2, 4, 4), 155);
        Check.same("pixel(2, 3, 2)", t.pixel(2, 3, 2), 255);
        Check.same("pixel(2, 6, 2)", t.pixel(2, 6, 2), 0);
        Check.same("pixel(2, 3, 5)", t.pixel(2, 3, 5), 0);
        Check.changesNothing("inverting twice", USED, u -> {
            u.invert(0, 5, 5);
            u.invert(0, 5, 5);
        });
    }

    private static void invertStopsAtTheEdge() {
        int[][] counts = {{0, 0, 9}, {5, 5, 9}, {6, 5, 6}, {5, 6, 6}, {6, 6, 4}, {7, 0, 3}, {0, 7, 3}, {7, 6, 2}, {7, 7, 1}};
        for (int[] c : counts) {
            Check.same("invert(3, " + c[0] + ", " + c[1] + ")", new TemporalLift().invert(3, c[0], c[1]), c[2]);
        }
        int[] before = State.after(USED);
        for (int place = 0; place < 64; place++) {
            int x0 = place % 8;
            int y0 = place / 8;
            int[] due = before.clone();
            int changed = 0;
            for (int i = 0; i < 64; i++) {
                if (i % 8 >= x0 && i % 8 <= x0 + 2 && i / 8 >= y0 && i / 8 <= y0 + 2) {
                    due[192 + i] = 255 - due[192 + i];
                    changed++;
                }
            }
            String name = "invert(3, " + x0 + ", " + y0 + ")";
            TemporalLift used = new TemporalLift();
            Scenes.everythingInUse(used);
            Check.same(name, used.invert(3, x0, y0), changed);
            Check.sameState(name, State.after(USED.andThen(t -> t.invert(3, x0, y0))), due);
        }
    }

    private static void invertRefuses() {
        TemporalLift t = new TemporalLift();
        for (int f : NO_FRAMES) {
            Check.same("invert in frame " + f, t.invert(f, 0, 0), -1);
            Check.same("invert in frame " + f + " with x0 wrong", t.invert(f, -1, 0), -1);
            Check.changesNothing("invert in frame " + f, USED, u -> u.invert(f, 0, 0));
        }
        for (int place : NO_PLACES) {
            Check.same("invert at x0 " + place, t.invert(0, place, 0), -2);
            Check.same("invert at y0 " + place, t.invert(3, 0, place), -2);
            Check.changesNothing("invert at x0 " + place, USED, u -> u.invert(1, place, 3));
            Check.changesNothing("invert at y0 " + place, USED, u -> u.invert(1, 3, place));
        }
    }

    private static void pixelAnswers() {
        TemporalLift t = new TemporalLift();
        Scenes.countedFrames(t);
        for (int i = 0; i < 256; i++) {
            Check.same("pixel number " + i, t.pixel(i / 64, i % 8, i % 64 / 8), i);
        }
        Check.changesNothing("pixel", USED, u -> u.pixel(1, 2, 3));
    }

    private static void pixelRefuses() {
        TemporalLift t = new TemporalLift();
        Scenes.everythingInUse(t);
        for (int f : NO_FRAMES) {
            Check.same("pixel of frame " + f, t.pixel(f, 0, 0), -1);
            Check.same("pixel of frame " + f + " at no place", t.pixel(f, 8, 8), -1);
        }
        for (int place : NO_PLACES) {
            Check.same("pixel at x " + place, t.pixel(0, place, 0), -2);
            Check.same("pixel at y " + place, t.pixel(3, 7, place), -2);
        }
        Check.changesNothing("a refused pixel", USED, u -> {
            u.pixel(-1, 0, 0);
            u.pixel(0, 8, 0);
        });
    }
}
