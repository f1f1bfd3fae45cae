import java.util.ArrayList;
import java.util.Arrays;
import java.util.List;
import java.util.function.Consumer;

/**
 * The refusals of all methods: every parameter at both its edges, just outside them and far outside,
 * in every mixture with the others.
 */
public final class RefusalsTest {
    private static final int FREE = 0;

    private interface Call {
        int on(TemporalLift t, int[] a);
    }

    /** What a parameter may be, and how the method answers if it is not so; FREE if it may be anything. */
    private record Parameter(int least, int most, int refusal) {
        boolean allows(int value) {
            return refusal == FREE || (least <= value && value <= most);
        }

        int[] values() {
            if (refusal == FREE) {
                return new int[] {9};
            }
            // The last two lead to a good place if they are multiplied, wrap around and are not looked at.
            return new int[] {least, most, least - 1, most + 1, Check.MIN, Check.MAX, least + (1 << 26), most - (1 << 30)};
        }
    }

    /** A method with its parameters in the order in which the document tests them. */
    private record Asked(String name, Call call, Parameter... parameters) {
        int due(int[] a) {
            for (int i = 0; i < parameters.length; i++) {
                if (!parameters[i].allows(a[i])) {
                    return parameters[i].refusal();
                }
            }
            return 0;
        }

        List<int[]> mixtures() {
            List<int[]> mixtures = new ArrayList<>();
            mixtures.add(new int[parameters.length]);
            for (int i = 0; i < parameters.length; i++) {
                List<int[]> longer = new ArrayList<>();
                for (int[] start : mixtures) {
                    for (int value : parameters[i].values()) {
                        int[] a = start.clone();
                        a[i] = value;
                        longer.add(a);
                    }
                }
                mixtures = longer;
            }
            return mixtures;
        }

        String told(int[] a) {
            return name + Arrays.toString(a).replace('[', '(').replace(']', ')');
        }
    }

    private static final Parameter ANY = new Parameter(0, 0, FREE);
    private static final Parameter FRAME = new Parameter(0, 3, -1);
    private static final Parameter LATER_FRAME = new Parameter(1, 3, -1);
    private static final Parameter PLACE = new Parameter(0, 7, -2);
    private static final Parameter DISTANCE = new Parameter(-8, 8, -2);
    private static final Parameter LINK = new Parameter(0, 2, -1);
    private static final Parameter BLOCK = new Parameter(0, 3, -2);
    private static final Parameter STEP = new Parameter(0, 24, -3);
    private static final Parameter SLOT = new Parameter(0, 1, -1);

    /** All methods but search and adopt, which have no argument to be wrong. */
    private static final List<Asked> ALL = List.of(
            new Asked("put", (t, a) -> t.put(a[0], a[1], a[2], a[3]), FRAME, PLACE, PLACE, ANY),
            new Asked("ramp", (t, a) -> t.ramp(a[0], a[1], a[2], a[3]), FRAME, ANY, ANY, ANY),
            new Asked("drift", (t, a) -> t.drift(a[0], a[1], a[2]), LATER_FRAME, DISTANCE, DISTANCE),
            new Asked("roughen", (t, a) -> t.roughen(a[0], a[1]), FRAME, ANY),
            new Asked("invert", (t, a) -> t.invert(a[0], a[1], a[2]), FRAME, PLACE, PLACE),
            new Asked("pixel", (t, a) -> t.pixel(a[0], a[1], a[2]), FRAME, PLACE, PLACE),
            new Asked("cost", (t, a) -> t.cost(a[0], a[1], a[2]), LINK, BLOCK, STEP),
            new Asked("setVector", (t, a) -> t.setVector(a[0], a[1], a[2]), LINK, BLOCK, STEP),
            new Asked("vector", (t, a) -> t.vector(a[0], a[1]), LINK, BLOCK),
            new Asked("encode", (t, a) -> t.encode(a[0]), SLOT),
            new Asked("decode", (t, a) -> t.decode(a[0]), SLOT),
            new Asked("erase", (t, a) -> t.erase(a[0]), SLOT),
            new Asked("copySlot", (t, a) -> t.copySlot(a[0]), SLOT),
            new Asked("filled", (t, a) -> t.filled(a[0]), SLOT),
            new Asked("out", (t, a) -> t.out(a[0], a[1], a[2]), FRAME, PLACE, PLACE),
            new Asked("outVector", (t, a) -> t.outVector(a[0], a[1]), LINK, BLOCK),
            new Asked("difference", (t, a) -> t.difference(a[0]), FRAME));

    private static final List<Consumer<TemporalLift>> RUNS =
            List.of(t -> { }, Scenes::everythingInUse, Scenes::slotOneEmpty);

    public static void main(String[] args) {
        edgesAreAllowedAndOnesBeyondRefused();
        decodeRefusesAnEmptySlot();
        testsAreMadeInTheOrderNamed();
        aRefusedCallChangesNothing();
        Check.end();
    }

    private static void edgesAreAllowedAndOnesBeyondRefused() {
        for (Asked asked : ALL) {
            refusesOneWrongArgument(asked);
        }
    }

    /** Mixtures with no wrong argument, which are not refused, and with a single one. */
    private static void refusesOneWrongArgument(Asked asked) {
        for (int[] a : asked.mixtures()) {
            int wrong = wrongArguments(asked, a);
            if (wrong > 1) {
                continue;
            }
            int answer = asked.call().on(inUse(), a);
            if (wrong == 1) {
                Check.same(asked.told(a), answer, asked.due(a));
            } else {
                Check.holds(asked.told(a) + " is not refused, it answered " + answer, answer >= 0);
            }
        }
    }

    private static int wrongArguments(Asked asked, int[] a) {
        int wrong = 0;
        for (int i = 0; i < a.length; i++) {
            wrong += asked.parameters()[i].allows(a[i]) ? 0 : 1;
        }
        return wrong;
    }

    private static TemporalLift inUse() {
        TemporalLift t = new TemporalLift();
        Scenes.everythingInUse(t);
        return t;
    }

    private static void decodeRefusesAnEmptySlot() {
        for (int slot = 0; slot < 2; slot++) {
            TemporalLift t = new TemporalLift();
            Check.same("decode(" + slot + ") of a new object", t.decode(slot), -2);
            t.encode(1 - slot);
            Check.same("decode(" + slot + ") when only the other is filled", t.decode(slot), -2);
            t.encode(slot);
            Check.same("decode(" + slot + ") when filled", t.decode(slot), 0);
            t.erase(slot);
            Check.same("decode(" + slot + ") when erased", t.decode(slot), -2);
            t.encode(slot);
            t.erase(1 - slot);
            Check.same("decode(" + slot + ") when the other is erased", t.decode(slot), 0);
            t.copySlot(1 - slot);
            Check.same("decode(" + slot + ") when made a copy of an empty one", t.decode(slot), -2);
        }
    }

    /** Where two or three arguments are wrong, the first one tested gives the answer. */
    private static void testsAreMadeInTheOrderNamed() {
        for (Asked asked : ALL) {
            for (int[] a : asked.mixtures()) {
                if (wrongArguments(asked, a) > 1) {
                    Check.same(asked.told(a), asked.call().on(inUse(), a), asked.due(a));
                }
            }
        }
        // A slot that is none is not empty either.
        for (int slot : new int[] {-1, 2, Check.MIN, Check.MAX}) {
            Check.same("decode(" + slot + ") when both are empty", new TemporalLift().decode(slot), -1);
        }
    }

    private static void aRefusedCallChangesNothing() {
        for (int run = 0; run < RUNS.size(); run++) {
            Consumer<TemporalLift> made = RUNS.get(run);
            int[] before = State.after(made);
            for (Asked asked : ALL) {
                for (int[] a : asked.mixtures()) {
                    if (wrongArguments(asked, a) > 0) {
                        int[] got = State.after(made.andThen(t -> asked.call().on(t, a)));
                        Check.sameState(asked.told(a) + " after run " + run + " changes nothing", got, before);
                    }
                }
            }
        }
        Check.changesNothing("decode(0) of a new object", t -> { }, t -> t.decode(0));
        Check.changesNothing("decode(1) when erased", Scenes::slotOneEmpty, t -> t.decode(1));
        Check.changesNothing("decode(0) when made a copy of an empty one",
                t -> {
                    Scenes.slotOneEmpty(t);
                    t.copySlot(1);
                },
                t -> t.decode(0));
    }
}
