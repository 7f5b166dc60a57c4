import java.util.List;

/**
 * A call that is refused: that it throws what is due, and that nothing is changed by it. Two objects are led to the
 * same state, one of them gets the call, and then both must answer alike whatever is asked.
 */
final class Refusal {
    interface Scene {
        Desk make();
    }

    interface Call {
        void on(Desk desk);
    }

    private final Check check;

    Refusal(Check check) {
        this.check = check;
    }

    void argument(String name, Scene scene, Call call) {
        refused(name, "IllegalArgumentException", scene, call);
    }

    void state(String name, Scene scene, Call call) {
        refused(name, "IllegalStateException", scene, call);
    }

    void missing(String name, Scene scene, Call call) {
        refused(name, "NoSuchElementException", scene, call);
    }

    /** Two things are wrong, and the document does not say which one is told. */
    void argumentOrState(String name, Scene scene, Call call) {
        refused(name, "IllegalArgumentException or IllegalStateException", scene, call);
    }

    void argumentOrMissing(String name, Scene scene, Call call) {
        refused(name, "IllegalArgumentException or NoSuchElementException", scene, call);
    }

    /** Not refused at all, but a question: nothing is changed by it either. */
    void questionOnly(String name, Scene scene, Call call) {
        refused(name, "nothing thrown", scene, call);
    }

    private void refused(String name, String due, Scene scene, Call call) {
        for (Probe probe : Probe.values()) {
            Desk with = scene.make();
            Desk without = scene.make();
            String outcome = Check.outcome(() -> call.on(with));
            if (!List.of(due.split(" or ")).contains(outcome)) {
                check.same(name, outcome, due);
                return;
            }
            check.same("the state behind " + name + ", " + probe, probe.answers(with), probe.answers(without));
        }
    }
}
