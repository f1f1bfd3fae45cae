/** Promise 1. */
public final class NewObjectTest {
    public static void main(String[] args) {
        everythingIsAsAtFirst();
        objectsShareNothing();
        Check.end();
    }

    private static void everythingIsAsAtFirst() {
        int[] due = new int[State.LENGTH];
        int[] groups = {State.WORK, State.OUT, State.DECODED + 1, State.DECODED + 1 + State.GROUP + 1};
        for (int start : groups) {
            for (int i = 0; i < 12; i++) {
                due[start + 256 + i] = 12;
            }
        }
        due[State.DECODED] = -2;
        due[State.DECODED + 1 + State.GROUP] = -2;
        Check.sameState("a new object is as the document says", State.after(t -> { }), due);

        TemporalLift t = new TemporalLift();
        Check.same("search()", t.search(), 0);
        for (int f = 0; f < 4; f++) {
            Check.same("difference(" + f + ")", t.difference(f), 0);
        }
        Check.same("erase(0)", t.erase(0), 0);
        Check.same("erase(1)", t.erase(1), 0);
    }

    private static void objectsShareNothing() {
        int[] fresh = State.after(t -> { });
        TemporalLift other = new TemporalLift();
        Scenes.everythingInUse(other);
        Check.sameState("a new object knows nothing of an older one", State.after(t -> { }), fresh);
    }
}
