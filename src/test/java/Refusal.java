import java.util.List;

/**
 * A call that is refused: that it throws what is due, and that nothing is changed by it. Two objects are led to the
 * same state, one of them gets the call, and then both must answer alike whatever is asked: memory, area, walker, and
 * what further calls do. Each kind of question has two objects of its own, for an object has 512 calls alone.
 */
final class Refusal {
    interface Scene {
        Desk make();
    }

    interface Call {
        void on(Desk desk);
    }

    private interface Question {
        int ask();
    }

    private interface Probe {
        void ask(Desk desk, StringBuilder answers);
    }

    private static final List<Probe> PROBES = List.of(
            Refusal::memory,
            (x, text) -> area(x, 0, text),
            (x, text) -> area(x, 32, text),
            (x, text) -> area(x, 64, text),
            Refusal::words,
            Refusal::walked,
            Refusal::kernelGoesOn,
            Refusal::dumpGoesOn,
            Refusal::walkerGoesOn);

    private final Check check;

    Refusal(Check check) {
        this.check = check;
    }

    void argument(String name, Scene scene, Call call) {
        refused(name, "IllegalArgumentException", scene, call);
    }

    void state(String name, Scene scene, Call call) {
        refused(name, "IllegalStateException", scene, call);
    }

    void missing(String name, Scene scene, Call call) {
        refused(name, "NoSuchElementException", scene, call);
    }

    /** Two things are wrong, and the document does not say which one is told. */
    void argumentOrState(String name, Scene scene, Call call) {
        refused(name, "IllegalArgumentException or IllegalStateException", scene, call);
    }

    void argumentOrMissing(String name, Scene scene, Call call) {
        refused(name, "IllegalArgumentException or NoSuchElementException", scene, call);
    }

    /** Not refused at all, but a question: nothing is changed by it either. */
    void questionOnly(String name, Scene scene, Call call) {
        refused(name, "nothing thrown", scene, call);
    }

    private void refused(String name, String due, Scene scene, Call call) {
        for (int k = 0; k < PROBES.size(); k++) {
            Desk with = scene.make();
            Desk without = scene.make();
            String outcome = Check.outcome(() -> call.on(with));
            if (!List.of(due.split(" or ")).contains(outcome)) {
                check.same(name, outcome, due);
                return;
            }
            check.same("the state behind " + name + ", probe " + k, answers(k, with), answers(k, without));
        }
    }

    private static String answers(int probe, Desk desk) {
        StringBuilder text = new StringBuilder();
        PROBES.get(probe).ask(desk, text);
        return text.toString();
    }

    private static void add(StringBuilder text, Question question) {
        String answer;
        try {
            answer = String.valueOf(question.ask());
        } catch (RuntimeException e) {
            answer = e.getClass().getSimpleName();
        }
        text.append(answer).append(' ');
    }

    private static void memory(Desk x, StringBuilder text) {
        for (int address = 0; address < 256; address++) {
            int at = address;
            add(text, () -> x.memory(at));
        }
    }

    private static void area(Desk x, int from, StringBuilder text) {
        for (int sector = from; sector < from + 32; sector++) {
            for (int word = 0; word < 8; word++) {
                int s = sector;
                int w = word;
                add(text, () -> x.area(s, w));
            }
        }
    }

    private static void words(Desk x, StringBuilder text) {
        for (int address = 0; address < 256; address++) {
            int at = address;
            add(text, () -> x.word(at));
        }
    }

    private static void walked(Desk x, StringBuilder text) {
        add(text, () -> x.broken(0));
        add(text, () -> x.broken(1));
        for (int node = 0; node <= 56; node++) {
            for (int what = 0; what < 3; what++) {
                int k = node;
                int w = what;
                add(text, () -> x.node(k, w));
            }
        }
    }

    private static void kernelGoesOn(Desk x, StringBuilder text) {
        add(text, () -> x.wake(1));
        add(text, () -> x.taskNew(11));
        add(text, () -> {
            x.waitOn(0, 2);
            return 0;
        });
        add(text, () -> {
            x.timer(35);
            return 0;
        });
        add(text, () -> x.file(true, 300));
        add(text, () -> {
            x.log(33);
            return 0;
        });
        add(text, () -> x.taskEnd(0));
        memory(x, text);
    }

    private static void dumpGoesOn(Desk x, StringBuilder text) {
        x.halt();
        add(text, () -> x.dump(200));
        for (int sector = 0; sector < 96; sector++) {
            int s = sector;
            add(text, () -> x.area(s, 0));
            add(text, () -> x.area(s, 7));
        }
        add(text, x::attach);
    }

    private static void walkerGoesOn(Desk x, StringBuilder text) {
        for (int list = 0; list < 6; list++) {
            int l = list;
            add(text, () -> x.walk(l));
            add(text, () -> x.broken(1));
        }
        add(text, x::attach);
        add(text, () -> x.walk(0));
    }
}
