import java.util.function.Consumer;

/** Promises 17 to 20: out, outVector, adopt, difference. */
public final class OutputTest {
    private static final int MIN = Check.MIN;
    private static final int MAX = Check.MAX;
    private static final int[] NO_FRAMES = {-1, 4, 5, MIN, MAX};
    private static final int[] NO_PLACES = {-1, 8, 9, MIN, MAX};
    private static final int[] NO_LINKS = {-1, 3, 4, MIN, MAX};
    private static final int[] NO_BLOCKS = {-1, 4, 5, MIN, MAX};
    private static final Consumer<TemporalLift> USED = Scenes::everythingInUse;

    public static void main(String[] args) {
        outAnswers();
        outRefuses();
        outVectorAnswers();
        outVectorRefuses();
        adoptCopiesTheOutput();
        adoptBeforeAnyDecode();
        adoptedFramesGoTheirOwnWay();
        differenceSumsBothWays();
        differenceGoesToItsEdges();
        differenceIsOfOneFrame();
        differenceRefuses();
        Check.end();
    }

    private static void outAnswers() {
        TemporalLift t = new TemporalLift();
        Scenes.countedFrames(t);
        t.encode(0);
        Check.same("out before decode", t.out(3, 7, 7), 0);
        t.decode(0);
        t.ramp(1, 0, 0, 3);
        for (int i = 0; i < 256; i++) {
            Check.same("out pixel number " + i, t.out(i / 64, i % 8, i % 64 / 8), i);
        }
        Check.changesNothing("out", USED, u -> u.out(1, 2, 3));
    }

    private static void outRefuses() {
        TemporalLift t = new TemporalLift();
        Scenes.everythingInUse(t);
        for (int f : NO_FRAMES) {
            Check.same("out of frame " + f, t.out(f, 0, 0), -1);
            Check.same("out of frame " + f + " at no place", t.out(f, -1, 8), -1);
        }
        for (int place : NO_PLACES) {
            Check.same("out at x " + place, t.out(0, place, 0), -2);
            Check.same("out at y " + place, t.out(3, 7, place), -2);
        }
        Check.changesNothing("a refused out", USED, u -> {
            u.out(4, 0, 0);
            u.out(0, 8, 0);
        });
    }

    private static void outVectorAnswers() {
        TemporalLift t = new TemporalLift();
        Scenes.countedVectors(t, 9);
        t.encode(1);
        for (int i = 0; i < 12; i++) {
            Check.same("outVector before decode", t.outVector(i / 4, i % 4), 12);
        }
        t.decode(1);
        Scenes.countedVectors(t, 1);
        for (int i = 0; i < 12; i++) {
            Check.same("outVector(" + i / 4 + ", " + i % 4 + ")", t.outVector(i / 4, i % 4), 9 + i);
        }
        Check.changesNothing("outVector", USED, u -> u.outVector(2, 1));
    }

    private static void outVectorRefuses() {
        TemporalLift t = new TemporalLift();
        for (int link : NO_LINKS) {
            Check.same("outVector of link " + link, t.outVector(link, 0), -1);
            Check.same("outVector of link " + link + ", block wrong", t.outVector(link, -1), -1);
        }
        for (int block : NO_BLOCKS) {
            Check.same("outVector of block " + block, t.outVector(0, block), -2);
            Check.same("outVector of link 2, block " + block, t.outVector(2, block), -2);
        }
        Check.changesNothing("a refused outVector", USED, u -> {
            u.outVector(3, 0);
            u.outVector(0, 4);
        });
    }

    private static void adoptCopiesTheOutput() {
        int[] due = State.after(USED);
        System.arraycopy(due, State.OUT, due, State.WORK, State.GROUP);
        Check.sameState("adopt() changes the working group alone", State.after(USED.andThen(t -> t.adopt())), due);
        Check.changesNothing("adopt() once more", USED.andThen(t -> t.adopt()), t -> t.adopt());
    }

    private static void adoptBeforeAnyDecode() {
        Check.sameState("adopt() before any decode", State.after(t -> {
            Scenes.countedFrames(t);
            Scenes.countedVectors(t, 3);
            t.adopt();
        }), State.after(t -> { }));
    }

    private static void adoptedFramesGoTheirOwnWay() {
        TemporalLift t = new TemporalLift();
        t.put(1, 2, 3, 50);
        t.setVector(1, 1, 20);
        t.encode(0);
        t.decode(0);
        t.adopt();
        t.put(1, 2, 3, 70);
        t.setVector(1, 1, 4);
        Check.same("out(1, 2, 3) after put", t.out(1, 2, 3), 50);
        Check.same("outVector(1, 1) after setVector", t.outVector(1, 1), 20);
        t.erase(0);
        t.encode(1);
        t.decode(1);
        Check.same("pixel(1, 2, 3) after decode", t.pixel(1, 2, 3), 70);
        Check.same("out(1, 2, 3) after decode", t.out(1, 2, 3), 70);
    }

    private static void differenceSumsBothWays() {
        for (int f = 0; f < 4; f++) {
            TemporalLift t = new TemporalLift();
            t.ramp(f, 0, 0, 100);
            Check.same("difference(" + f + ") from zeros", t.difference(f), 6400);
            t.encode(0);
            t.decode(0);
            Check.same("difference(" + f + ") of the same", t.difference(f), 0);
            t.put(f, 0, 0, 90);
            t.put(f, 7, 7, 130);
            Check.same("difference(" + f + ") both ways", t.difference(f), 40);
            t.put(f, 7, 0, 101);
            t.put(f, 0, 7, 99);
            Check.same("difference(" + f + ") in all corners", t.difference(f), 42);
            t.ramp(f, 0, 0, 0);
            Check.same("difference(" + f + ") down", t.difference(f), 6400);
            t.ramp(f, 0, 0, 255);
            Check.same("difference(" + f + ") up", t.difference(f), 64 * 155);
        }
        Check.changesNothing("difference", USED, t -> t.difference(2));
    }

    private static void differenceGoesToItsEdges() {
        for (int f = 0; f < 4; f++) {
            TemporalLift t = new TemporalLift();
            Check.same("difference(" + f + ") of black frames", t.difference(f), 0);
            t.ramp(f, 0, 0, 255);
            Check.same("difference(" + f + ") of white from black", t.difference(f), 64 * 255);
            t.encode(0);
            t.decode(0);
            Check.same("difference(" + f + ") of white frames", t.difference(f), 0);
            t.ramp(f, 0, 0, 0);
            Check.same("difference(" + f + ") of black from white", t.difference(f), 64 * 255);
            for (int i = 0; i < 64; i++) {
                t.put(f, i % 8, i / 8, 255);
                Check.same("difference(" + f + ") with " + (63 - i) + " pixels left", t.difference(f), 255 * (63 - i));
            }
        }
    }

    private static void differenceIsOfOneFrame() {
        TemporalLift t = new TemporalLift();
        for (int f = 0; f < 4; f++) {
            t.put(f, f, 2 * f, 10 + f);
        }
        for (int f = 0; f < 4; f++) {
            Check.same("difference(" + f + ")", t.difference(f), 10 + f);
        }
    }

    private static void differenceRefuses() {
        TemporalLift t = new TemporalLift();
        Scenes.everythingInUse(t);
        for (int f : NO_FRAMES) {
            Check.same("difference(" + f + ")", t.difference(f), -1);
        }
        Check.changesNothing("a refused difference", USED, u -> u.difference(4));
    }
}
