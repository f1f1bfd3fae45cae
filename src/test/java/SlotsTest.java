import java.util.Arrays;
import java.util.function.Consumer;

/** Promises 12 to 16: encode, decode, erase, copySlot, filled. */
public final class SlotsTest {
    private static final int[] NO_SLOTS = {-1, 2, 3, Check.MIN, Check.MAX};
    private static final Consumer<TemporalLift> USED = Scenes::everythingInUse;
    private static final Consumer<TemporalLift> ONE_EMPTY = Scenes::slotOneEmpty;

    public static void main(String[] args) {
        encodeKeepsTheWorkingGroup();
        encodeTakesThePlaceOfTheOld();
        encodeRefuses();
        codingIsLosslessForEveryVector();
        codingIsLosslessForHarshFrames();
        decodeFillsTheOutput();
        decodeAnswersTheSum();
        decodeCanBeRepeated();
        decodeRefuses();
        eraseEmpties();
        eraseRefuses();
        copySlotCopies();
        copySlotOfAnEmptyOne();
        copiesGoTheirOwnWay();
        copySlotRefuses();
        filledAnswers();
        filledRefuses();
        Check.end();
    }

    private static int slotStart(int slot) {
        return State.DECODED + slot * (1 + State.GROUP);
    }

    /** What the state is to be when the slot holds the group that stands at from in another state. */
    private static int[] withSlot(int[] state, int slot, int[] other, int from) {
        int[] due = state.clone();
        due[State.FILLED + slot] = 1;
        int sum = 0;
        for (int i = 0; i < 256; i++) {
            sum += other[from + i];
        }
        due[slotStart(slot)] = sum;
        System.arraycopy(other, from, due, slotStart(slot) + 1, State.GROUP);
        return due;
    }

    /** An empty slot decodes into nothing, so the output that was there is seen. */
    private static int[] withoutSlot(int[] state, int slot) {
        int[] due = state.clone();
        due[State.FILLED + slot] = 0;
        due[slotStart(slot)] = -2;
        System.arraycopy(state, State.OUT, due, slotStart(slot) + 1, State.GROUP);
        return due;
    }

    private static void encodeKeepsTheWorkingGroup() {
        for (int slot = 0; slot < 2; slot++) {
            int s = slot;
            Consumer<TemporalLift> drawn = t -> {
                Scenes.countedFrames(t);
                Scenes.countedVectors(t, 7);
            };
            int[] before = State.after(drawn);
            Check.same("encode(" + slot + ")", new TemporalLift().encode(slot), 0);
            Check.sameState("encode(" + slot + ") fills that slot alone",
                    State.after(drawn.andThen(t -> t.encode(s))), withSlot(before, slot, before, State.WORK));
        }
    }

    private static void encodeTakesThePlaceOfTheOld() {
        int[] before = State.after(USED);
        for (int slot = 0; slot < 2; slot++) {
            int s = slot;
            Check.sameState("encode(" + slot + ") over an old group",
                    State.after(USED.andThen(t -> t.encode(s))), withSlot(before, slot, before, State.WORK));
        }
        TemporalLift t = new TemporalLift();
        Check.same("encode(1) at first", t.encode(1), 0);
        t.put(1, 1, 1, 5);
        t.setVector(2, 2, 22);
        Check.same("encode(1) again", t.encode(1), 0);
        t.put(1, 1, 1, 6);
        t.setVector(2, 2, 3);
        Check.same("decode(1)", t.decode(1), 5);
        Check.same("outVector(2, 2)", t.outVector(2, 2), 22);
    }

    private static void encodeRefuses() {
        for (int slot : NO_SLOTS) {
            Check.same("encode(" + slot + ")", new TemporalLift().encode(slot), -1);
            Check.changesNothing("encode(" + slot + ")", USED, t -> t.encode(slot));
        }
    }

    private static void codingIsLosslessForEveryVector() {
        for (int step = 0; step < 25; step++) {
            int first = step;
            roundTrip("vectors counted from step " + step, t -> {
                Scenes.countedFrames(t);
                t.roughen(1, 11);
                t.roughen(3, 5);
                Scenes.countedVectors(t, first);
            });
            roundTrip("all vectors of step " + step, t -> {
                Scenes.countedFrames(t);
                t.invert(0, 0, 0);
                t.invert(2, 6, 6);
                for (int i = 0; i < 12; i++) {
                    t.setVector(i / 4, i % 4, first);
                }
            });
        }
    }

    /** Frames of 0 and 255 alone make the predictions miss by as much as they can, both ways. */
    private static void codingIsLosslessForHarshFrames() {
        for (int pattern = 0; pattern < 256; pattern++) {
            int p = pattern;
            roundTrip("harsh frames of pattern " + pattern, t -> {
                for (int f = 0; f < 4; f++) {
                    int kind = p >> (2 * f) & 3;
                    t.ramp(f, kind == 2 ? 255 : 0, kind == 3 ? 255 : 0, kind == 0 ? 0 : 255);
                    t.invert(f, f, kind);
                }
                Scenes.countedVectors(t, p % 25);
            });
        }
        roundTrip("odd sums of the two predictions", t -> {
            t.ramp(0, 1, 0, 0);
            t.ramp(1, 0, 0, 255);
            t.ramp(2, 0, 1, 0);
        });
    }

    private static void roundTrip(String name, Consumer<TemporalLift> drawn) {
        int[] before = State.after(drawn);
        for (int slot = 0; slot < 2; slot++) {
            int s = slot;
            int[] got = State.after(drawn.andThen(t -> {
                t.encode(s);
                drawOver(t);
                t.decode(s);
            }));
            boolean lossless = Arrays.equals(
                    got, State.OUT, State.OUT + State.GROUP, before, State.WORK, State.WORK + State.GROUP);
            Check.holds(name + " come back from slot " + slot, lossless);
        }
    }

    /** What was coded must come from the slot, not from working frames or vectors that still stand. */
    private static void drawOver(TemporalLift t) {
        for (int f = 0; f < 4; f++) {
            t.ramp(f, 3, 1, 4 + f);
        }
        for (int i = 0; i < 12; i++) {
            t.setVector(i / 4, i % 4, (t.vector(i / 4, i % 4) + 7) % 25);
        }
    }

    /** In slot 0 pixel number i of the group is i and vector number i has step i, in slot 1 255 - i and i + 5. */
    private static void decodeFillsTheOutput() {
        int[] before = State.after(USED);
        for (int slot = 0; slot < 2; slot++) {
            int s = slot;
            int[] due = before.clone();
            for (int i = 0; i < 256; i++) {
                due[State.OUT + i] = slot == 0 ? i : 255 - i;
            }
            for (int i = 0; i < 12; i++) {
                due[State.OUT + 256 + i] = slot == 0 ? i : i + 5;
            }
            Consumer<TemporalLift> otherOutput = USED.andThen(t -> t.decode(1 - s));
            Check.sameState("decode(" + slot + ") changes the output alone",
                    State.after(otherOutput.andThen(t -> t.decode(s))), due);
        }
    }

    private static void decodeAnswersTheSum() {
        TemporalLift t = new TemporalLift();
        t.encode(0);
        Check.same("decode(0) of zeros", t.decode(0), 0);
        Scenes.countedFrames(t);
        t.encode(0);
        Check.same("decode(0) of 0 .. 255", t.decode(0), 255 * 128);
        for (int f = 0; f < 4; f++) {
            t.ramp(f, 0, 0, 255);
        }
        t.encode(1);
        Check.same("decode(1) of white", t.decode(1), 4 * 64 * 255);
        t.ramp(2, 0, 0, 0);
        Check.same("decode(0) again", t.decode(0), 255 * 128);
    }

    private static void decodeCanBeRepeated() {
        for (int slot = 0; slot < 2; slot++) {
            TemporalLift t = new TemporalLift();
            Scenes.everythingInUse(t);
            for (int time = 0; time < 3; time++) {
                Check.same("decode(" + slot + ") for time " + time, t.decode(slot), 255 * 128);
                Check.same("filled(" + slot + ") after decode " + time, t.filled(slot), 1);
            }
        }
        Check.changesNothing("decoding once more", USED.andThen(t -> t.decode(0)), t -> t.decode(0));
    }

    private static void decodeRefuses() {
        for (int slot : NO_SLOTS) {
            Check.same("decode(" + slot + ")", new TemporalLift().decode(slot), -1);
            Check.changesNothing("decode(" + slot + ")", USED, t -> t.decode(slot));
        }
        Check.same("decode(0) of a new object", new TemporalLift().decode(0), -2);
        Check.same("decode(1) of a new object", new TemporalLift().decode(1), -2);
        TemporalLift t = new TemporalLift();
        Scenes.slotOneEmpty(t);
        Check.same("decode(1) when erased", t.decode(1), -2);
        Check.changesNothing("decode(1) when empty", ONE_EMPTY, u -> u.decode(1));
    }

    private static void eraseEmpties() {
        int[] before = State.after(USED);
        for (int slot = 0; slot < 2; slot++) {
            int s = slot;
            Check.sameState("erase(" + slot + ")",
                    State.after(USED.andThen(t -> t.erase(s))), withoutSlot(before, slot));
            TemporalLift t = new TemporalLift();
            Check.same("erase(" + slot + ") when empty", t.erase(slot), 0);
            t.encode(slot);
            Check.same("erase(" + slot + ") when filled", t.erase(slot), 1);
            Check.same("erase(" + slot + ") once more", t.erase(slot), 0);
            t.encode(1 - slot);
            Check.same("erase(" + slot + ") beside a filled one", t.erase(slot), 0);
            t.encode(slot);
            Check.same("erase(" + slot + ") when filled again", t.erase(slot), 1);
        }
    }

    private static void eraseRefuses() {
        for (int slot : NO_SLOTS) {
            TemporalLift t = new TemporalLift();
            Scenes.everythingInUse(t);
            Check.same("erase(" + slot + ")", t.erase(slot), -1);
            Check.changesNothing("erase(" + slot + ")", USED, u -> u.erase(slot));
        }
    }

    private static void copySlotCopies() {
        int[] before = State.after(USED);
        for (int slot = 0; slot < 2; slot++) {
            int s = slot;
            Check.sameState("copySlot(" + slot + ") over a filled one",
                    State.after(USED.andThen(t -> t.copySlot(s))),
                    withSlot(before, 1 - slot, before, slotStart(slot) + 1));
            Consumer<TemporalLift> otherEmpty = USED.andThen(t -> t.erase(1 - s));
            Check.sameState("copySlot(" + slot + ") over an empty one",
                    State.after(otherEmpty.andThen(t -> t.copySlot(s))),
                    withSlot(before, 1 - slot, before, slotStart(slot) + 1));
            TemporalLift t = new TemporalLift();
            Check.same("copySlot(" + slot + ") of an empty one", t.copySlot(slot), 0);
            t.encode(slot);
            Check.same("copySlot(" + slot + ") of a filled one", t.copySlot(slot), 0);
            Check.same("filled(" + (1 - slot) + ")", t.filled(1 - slot), 1);
        }
    }

    private static void copySlotOfAnEmptyOne() {
        int[] before = State.after(ONE_EMPTY);
        Check.sameState("copySlot(1) when 1 is empty",
                State.after(ONE_EMPTY.andThen(t -> t.copySlot(1))), withoutSlot(before, 0));
        TemporalLift t = new TemporalLift();
        t.encode(1);
        t.copySlot(0);
        Check.same("filled(1) after copySlot(0) when 0 is empty", t.filled(1), 0);
        Check.same("decode(1) then", t.decode(1), -2);
    }

    private static void copiesGoTheirOwnWay() {
        TemporalLift t = new TemporalLift();
        t.put(3, 3, 3, 40);
        t.encode(0);
        t.copySlot(0);
        t.put(3, 3, 3, 60);
        t.encode(0);
        Check.same("decode(1) after encode(0)", t.decode(1), 40);
        t.erase(0);
        Check.same("decode(1) after erase(0)", t.decode(1), 40);
        t.copySlot(1);
        t.encode(1);
        Check.same("decode(0) after encode(1)", t.decode(0), 40);
        Check.same("decode(1) after encode(1)", t.decode(1), 60);
    }

    private static void copySlotRefuses() {
        for (int slot : NO_SLOTS) {
            Check.same("copySlot(" + slot + ")", new TemporalLift().copySlot(slot), -1);
            Check.changesNothing("copySlot(" + slot + ")", USED, t -> t.copySlot(slot));
            Check.changesNothing("copySlot(" + slot + ") beside an empty one", ONE_EMPTY, t -> t.copySlot(slot));
        }
    }

    private static void filledAnswers() {
        for (int slot = 0; slot < 2; slot++) {
            TemporalLift t = new TemporalLift();
            Check.same("filled(" + slot + ") at first", t.filled(slot), 0);
            t.encode(slot);
            Check.same("filled(" + slot + ") after encode", t.filled(slot), 1);
            Check.same("filled of the other", t.filled(1 - slot), 0);
            t.decode(slot);
            Check.same("filled(" + slot + ") after decode", t.filled(slot), 1);
            t.adopt();
            Check.same("filled(" + slot + ") after adopt", t.filled(slot), 1);
            t.erase(slot);
            Check.same("filled(" + slot + ") after erase", t.filled(slot), 0);
        }
        Check.changesNothing("filled", ONE_EMPTY, t -> {
            t.filled(0);
            t.filled(1);
        });
    }

    private static void filledRefuses() {
        TemporalLift t = new TemporalLift();
        Scenes.everythingInUse(t);
        for (int slot : NO_SLOTS) {
            Check.same("filled(" + slot + ")", t.filled(slot), -1);
            Check.changesNothing("filled(" + slot + ")", USED, u -> u.filled(slot));
        }
    }
}
