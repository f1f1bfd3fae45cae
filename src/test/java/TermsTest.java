import java.util.ArrayList;
import java.util.List;
import java.util.function.Consumer;
import java.util.function.ToIntFunction;

/** The sentences of "What it is" and "Terms" that hold for more than one promise. */
public final class TermsTest {
    private static final int[] PREDICTED = {1, 1, 3};
    private static final int[] SOURCE = {0, 2, 2};

    public static void main(String[] args) {
        xBelowZeroCountsAsZero();
        xAboveSevenCountsAsSeven();
        yBelowZeroCountsAsZero();
        yAboveSevenCountsAsSeven();
        everyDriftTakesTheNearestPixel();
        everyCostTakesTheNearestPixel();
        pixelsStayInABytesRange();
        noQuestionChangesAnything();
        allOf512CallsAnswer();
        laterCallsEndToo();
        Check.end();
    }

    private static int nearest(int n) {
        return n < 0 ? 0 : n > 7 ? 7 : n;
    }

    /** Frame 0 has the pixel 10 * x + y + 1 at (x, y), so that column and row can be read from it. */
    private static TemporalLift readable() {
        TemporalLift t = new TemporalLift();
        t.ramp(0, 10, 1, 1);
        return t;
    }

    private static void columnsAre(TemporalLift t, String name, int... columns) {
        for (int i = 0; i < 64; i++) {
            Check.same(name + ", pixel(1, " + i % 8 + ", " + i / 8 + ")",
                    t.pixel(1, i % 8, i / 8), 10 * columns[i % 8] + i / 8 + 1);
        }
    }

    private static void rowsAre(TemporalLift t, String name, int... rows) {
        for (int i = 0; i < 64; i++) {
            Check.same(name + ", pixel(1, " + i % 8 + ", " + i / 8 + ")",
                    t.pixel(1, i % 8, i / 8), 10 * (i % 8) + rows[i / 8] + 1);
        }
    }

    private static void xBelowZeroCountsAsZero() {
        TemporalLift t = readable();
        Check.same("drift(1, 1, 0)", t.drift(1, 1, 0), 1);
        columnsAre(t, "drift(1, 1, 0)", 0, 0, 1, 2, 3, 4, 5, 6);
        Check.same("drift(1, 3, 0)", t.drift(1, 3, 0), 1);
        columnsAre(t, "drift(1, 3, 0)", 0, 0, 0, 0, 1, 2, 3, 4);
        Check.same("drift(1, 8, 0)", t.drift(1, 8, 0), 1);
        columnsAre(t, "drift(1, 8, 0)", 0, 0, 0, 0, 0, 0, 0, 0);

        t.ramp(1, 0, 0, 0);
        t.ramp(0, 10, 0, 1);
        Check.same("the columns 0, 0, 0, 1 of four rows", t.cost(0, 0, 2), 4 * (1 + 1 + 1 + 11));
    }

    private static void xAboveSevenCountsAsSeven() {
        TemporalLift t = readable();
        Check.same("drift(1, -1, 0)", t.drift(1, -1, 0), 11);
        columnsAre(t, "drift(1, -1, 0)", 1, 2, 3, 4, 5, 6, 7, 7);
        Check.same("drift(1, -3, 0)", t.drift(1, -3, 0), 31);
        columnsAre(t, "drift(1, -3, 0)", 3, 4, 5, 6, 7, 7, 7, 7);
        Check.same("drift(1, -8, 0)", t.drift(1, -8, 0), 71);
        columnsAre(t, "drift(1, -8, 0)", 7, 7, 7, 7, 7, 7, 7, 7);

        t.ramp(1, 0, 0, 0);
        t.ramp(0, 10, 0, 1);
        Check.same("the columns 6, 7, 7, 7 of four rows", t.cost(0, 1, 22), 4 * (61 + 71 + 71 + 71));
    }

    private static void yBelowZeroCountsAsZero() {
        TemporalLift t = readable();
        Check.same("drift(1, 0, 1)", t.drift(1, 0, 1), 1);
        rowsAre(t, "drift(1, 0, 1)", 0, 0, 1, 2, 3, 4, 5, 6);
        Check.same("drift(1, 0, 3)", t.drift(1, 0, 3), 1);
        rowsAre(t, "drift(1, 0, 3)", 0, 0, 0, 0, 1, 2, 3, 4);
        Check.same("drift(1, 0, 8)", t.drift(1, 0, 8), 1);
        rowsAre(t, "drift(1, 0, 8)", 0, 0, 0, 0, 0, 0, 0, 0);

        t.ramp(1, 0, 0, 0);
        t.ramp(0, 0, 10, 1);
        Check.same("the rows 0, 0, 0, 1 of four columns", t.cost(0, 0, 10), 4 * (1 + 1 + 1 + 11));
    }

    private static void yAboveSevenCountsAsSeven() {
        TemporalLift t = readable();
        Check.same("drift(1, 0, -1)", t.drift(1, 0, -1), 2);
        rowsAre(t, "drift(1, 0, -1)", 1, 2, 3, 4, 5, 6, 7, 7);
        Check.same("drift(1, 0, -3)", t.drift(1, 0, -3), 4);
        rowsAre(t, "drift(1, 0, -3)", 3, 4, 5, 6, 7, 7, 7, 7);
        Check.same("drift(1, 0, -8)", t.drift(1, 0, -8), 8);
        rowsAre(t, "drift(1, 0, -8)", 7, 7, 7, 7, 7, 7, 7, 7);

        t.ramp(1, 0, 0, 0);
        t.ramp(0, 0, 10, 1);
        Check.same("the rows 6, 7, 7, 7 of four columns", t.cost(0, 2, 14), 4 * (61 + 71 + 71 + 71));
    }

    private static void everyDriftTakesTheNearestPixel() {
        for (int move = 0; move < 17 * 17; move++) {
            int dx = move % 17 - 8;
            int dy = move / 17 - 8;
            for (int f = 1; f < 4; f++) {
                TemporalLift t = new TemporalLift();
                Scenes.countedFrames(t);
                String name = "drift(" + f + ", " + dx + ", " + dy + ")";
                int first = 64 * (f - 1);
                Check.same(name, t.drift(f, dx, dy), first + 8 * nearest(-dy) + nearest(-dx));
                for (int i = 0; i < 64; i++) {
                    Check.same(name + ", pixel " + i, t.pixel(f, i % 8, i / 8),
                            first + 8 * nearest(i / 8 - dy) + nearest(i % 8 - dx));
                }
            }
        }
    }

    /** Against a black frame the cost is the sum of the pixels that the vector leads to. */
    private static void everyCostTakesTheNearestPixel() {
        for (int link = 0; link < 3; link++) {
            TemporalLift t = new TemporalLift();
            t.ramp(SOURCE[link], 3, 29, 0);
            t.ramp(PREDICTED[link], 0, 0, 0);
            for (int block = 0; block < 4; block++) {
                for (int step = 0; step < 25; step++) {
                    int due = 0;
                    for (int i = 0; i < 16; i++) {
                        int x = 4 * (block % 2) + i % 4 + step / 5 - 2;
                        int y = 4 * (block / 2) + i / 4 + step % 5 - 2;
                        due += 3 * nearest(x) + 29 * nearest(y);
                    }
                    Check.same("cost(" + link + ", " + block + ", " + step + ")", t.cost(link, block, step), due);
                }
            }
        }
    }

    private static void pixelsStayInABytesRange() {
        TemporalLift t = new TemporalLift();
        t.put(0, 0, 0, 255);
        t.invert(0, 0, 0);
        Check.same("255 inverted", t.pixel(0, 0, 0), 0);
        Check.same("0 inverted", t.pixel(0, 1, 1), 255);
        t.ramp(1, 0, 0, 255);
        t.roughen(1, 1);
        Check.same("255 roughened by 1", t.pixel(1, 0, 0), 0);
        Check.same("255 roughened by 15", t.pixel(1, 6, 1), 14);
        Check.same("255 roughened by 0", t.pixel(1, 7, 1), 255);
        t.put(2, 7, 7, 256);
        Check.same("256 put", t.pixel(2, 7, 7), 0);
        t.put(2, 7, 7, -1);
        Check.same("-1 put", t.pixel(2, 7, 7), 255);
        t.ramp(3, 1, 0, 250);
        Check.same("the last pixel below 256 of a ramp", t.pixel(3, 5, 0), 255);
        Check.same("the first one above", t.pixel(3, 6, 0), 0);
        t.ramp(3, -1, 0, 5);
        Check.same("the last pixel above -1 of a ramp", t.pixel(3, 5, 0), 0);
        Check.same("the first one below", t.pixel(3, 6, 0), 255);
    }

    private static void noQuestionChangesAnything() {
        List<ToIntFunction<TemporalLift>> questions = new ArrayList<>();
        for (int i = 0; i < 256; i++) {
            int f = i / 64;
            int x = i % 8;
            int y = i / 8 % 8;
            questions.add(t -> t.pixel(f, x, y));
            questions.add(t -> t.out(f, x, y));
        }
        for (int i = 0; i < 12; i++) {
            int link = i / 4;
            int block = i % 4;
            questions.add(t -> t.vector(link, block));
            questions.add(t -> t.outVector(link, block));
            for (int step = 0; step < 25; step++) {
                int s = step;
                questions.add(t -> t.cost(link, block, s));
            }
        }
        for (int f = 0; f < 4; f++) {
            int frame = f;
            questions.add(t -> t.difference(frame));
        }
        questions.add(t -> t.filled(0));
        questions.add(t -> t.filled(1));

        List<Consumer<TemporalLift>> runs = List.of(t -> { }, Scenes::everythingInUse, Scenes::slotOneEmpty);
        for (Consumer<TemporalLift> run : runs) {
            int[] before = State.after(run);
            for (int i = 0; i < questions.size(); i++) {
                ToIntFunction<TemporalLift> question = questions.get(i);
                int[] got = State.after(run.andThen(t -> {
                    int first = question.applyAsInt(t);
                    Check.same("a question asked again", question.applyAsInt(t), first);
                }));
                Check.sameState("question " + i + " changes nothing", got, before);
            }
        }
    }

    /** Each method once as the 512th call: it answers as it does when few calls went before. */
    private static void allOf512CallsAnswer() {
        List<ToIntFunction<TemporalLift>> methods = List.of(
                t -> t.put(1, 2, 3, 4), t -> t.ramp(1, 2, 3, 4), t -> t.drift(1, 2, 3), t -> t.roughen(1, 2),
                t -> t.invert(1, 6, 3), t -> t.pixel(1, 2, 3), t -> t.cost(1, 2, 3), t -> t.setVector(1, 2, 3),
                t -> t.search(), t -> t.vector(1, 2), t -> t.encode(1), t -> t.decode(1), t -> t.erase(1),
                t -> t.copySlot(1), t -> t.filled(1), t -> t.out(1, 2, 3), t -> t.outVector(1, 2), t -> t.difference(1));
        for (int i = 0; i < methods.size(); i++) {
            TemporalLift young = new TemporalLift();
            Scenes.everythingInUse(young);
            int due = methods.get(i).applyAsInt(young);
            Check.same("method " + i + " as the 512th call", methods.get(i).applyAsInt(afterCalls(511)), due);
        }

        TemporalLift old = afterCalls(506);
        Check.same("put as the 507th call", old.put(3, 7, 7, 99), 1);
        Check.same("encode as the 508th call", old.encode(0), 0);
        Check.same("copySlot as the 509th call", old.copySlot(0), 0);
        Check.holds("decode as the 510th call", old.decode(1) > 0);
        old.adopt();
        Check.same("out as the 512th call", old.out(3, 7, 7), 99);
    }

    /** An object with everything in use that has had so many calls, most of them of one pixel that goes back. */
    private static TemporalLift afterCalls(int calls) {
        TemporalLift t = new TemporalLift();
        Scenes.everythingInUse(t);
        int restored = t.pixel(0, 0, 0);
        for (int made = Scenes.CALLS_IN_USE + 1; made < calls; made++) {
            t.put(0, 0, 0, made + 1 == calls ? restored : made);
        }
        return t;
    }

    /** What they answer is free, but by the language's rules no call may throw. */
    private static void laterCallsEndToo() {
        TemporalLift t = afterCalls(512);
        int ended = 0;
        for (int i = 0; i < 3000; i++) {
            t.put(i % 4, i % 8, i / 8 % 8, i);
            t.roughen(i % 4, i);
            t.search();
            t.encode(i % 2);
            t.decode(i % 2);
            t.adopt();
            ended++;
        }
        Check.same("calls after the 512th", ended, 3000);
    }
}
