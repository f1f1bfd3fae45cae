import java.util.Arrays;
import java.util.function.Consumer;

/** Counts and prints the answers that are not the ones due; a test ends with {@link #end}. */
final class Check {
    static final int MIN = Integer.MIN_VALUE;
    static final int MAX = Integer.MAX_VALUE;

    /** A long test that goes wrong would otherwise bury its first, telling lines. */
    private static final int MOST_PRINTED = 40;

    private static int asked = 0;
    private static int wrong = 0;

    private Check() {
    }

    static void same(String what, long got, long due) {
        asked++;
        if (got != due) {
            tell(what + " answered " + got + ", due is " + due);
        }
    }

    static void holds(String what, boolean isSo) {
        asked++;
        if (!isSo) {
            tell("not so: " + what);
        }
    }

    private static void tell(String fault) {
        wrong++;
        if (wrong <= MOST_PRINTED) {
            System.out.println(fault);
        }
    }

    static void sameState(String what, int[] got, int[] due) {
        int at = Arrays.mismatch(got, due);
        holds(what + (at < 0 ? "" : ", first at " + State.nameOf(at)), at < 0);
    }

    /** Sees to it that the call, made after the run, leaves every part of the state as it was. */
    static void changesNothing(String what, Consumer<TemporalLift> run, Consumer<TemporalLift> call) {
        sameState(what + " changes nothing", State.after(run.andThen(call)), State.after(run));
    }

    static void end() {
        System.out.println(wrong == 0 ? asked + " checks are as due" : wrong + " of " + asked + " checks are not as due");
        if (wrong != 0) {
            System.exit(1);
        }
    }
}
