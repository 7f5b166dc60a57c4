/** Compares answers with those that are due, each under the sentence of the document that asks for it. */
final class Check {
    interface Part {
        void run();
    }

    /** Far above what a test needs: some seconds at most. */
    private static final long PATIENCE_MILLIS = 300_000;

    private final String test;
    private volatile String sentence = "";
    private int sentences = 0;
    private int checks = 0;
    private int wrong = 0;

    Check(String test) {
        this.test = test;
        Thread watch = new Thread(this::watch);
        watch.setDaemon(true);
        watch.start();
    }

    /** A call that does not end would keep the test from failing. */
    private void watch() {
        try {
            Thread.sleep(PATIENCE_MILLIS);
        } catch (InterruptedException e) {
            return;
        }
        System.out.println(test + ": a call does not end [" + sentence + "]");
        Runtime.getRuntime().halt(1);
    }

    /** One sentence of the document and its test, which goes wrong too when a call in it throws what is not due. */
    void sentence(String text, Part part) {
        sentence = text;
        sentences++;
        try {
            part.run();
        } catch (RuntimeException e) {
            fault("a call threw " + e + " at " + place(e));
        }
    }

    private String place(RuntimeException e) {
        for (StackTraceElement step : e.getStackTrace()) {
            if (step.getFileName() != null && step.getFileName().startsWith(test)) {
                return step.toString();
            }
        }
        return "an unknown place";
    }

    private void fault(String text) {
        wrong++;
        System.out.println(test + ": " + text + " [" + sentence + "]");
    }

    void due(String call, long got, long want) {
        checks++;
        if (got != want) {
            fault(call + " answered " + got + ", due is " + want);
        }
    }

    void same(String what, Object got, Object want) {
        checks++;
        if (!got.equals(want)) {
            fault(what + " is " + got + ", due is " + want);
        }
    }

    void argument(String name, Part call) {
        same(name, outcome(call), "IllegalArgumentException");
    }

    void state(String name, Part call) {
        same(name, outcome(call), "IllegalStateException");
    }

    void missing(String name, Part call) {
        same(name, outcome(call), "NoSuchElementException");
    }

    static String outcome(Part call) {
        try {
            call.run();
            return "nothing thrown";
        } catch (RuntimeException e) {
            return e.getClass().getSimpleName();
        }
    }

    void memoryIs(Desk desk, int address, int... words) {
        for (int k = 0; k < words.length; k++) {
            due("memory(" + (address + k) + ")", desk.memory(address + k), words[k]);
        }
    }

    void sectorIs(Desk desk, int sector, int... words) {
        for (int k = 0; k < 8; k++) {
            due("area(" + sector + ", " + k + ")", desk.area(sector, k), words[k]);
        }
    }

    void erased(Desk desk, int from, int to) {
        for (int sector = from; sector < to; sector++) {
            sectorIs(desk, sector, -1, -1, -1, -1, -1, -1, -1, -1);
        }
    }

    void end() {
        System.out.println(test + ": " + sentences + " sentences, " + checks + " checks, " + wrong + " wrong");
        if (wrong != 0) {
            System.exit(1);
        }
    }
}
