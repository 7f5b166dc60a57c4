/** Counts and prints the answers that are not the ones that are due. */
final class Check {
    interface Call {
        void run();
    }

    private final String test;
    private int checks = 0;
    private int wrong = 0;

    Check(String test) {
        this.test = test;
    }

    void due(String call, long got, long want) {
        checks++;
        if (got != want) {
            wrong++;
            System.out.println(test + ": " + call + " answered " + got + ", due is " + want);
        }
    }

    void same(String what, Object got, Object want) {
        checks++;
        if (!got.equals(want)) {
            wrong++;
            System.out.println(test + ": " + what + " is " + got + ", due is " + want);
        }
    }

    void argument(String name, Call call) {
        same(name, outcome(call), "IllegalArgumentException");
    }

    void state(String name, Call call) {
        same(name, outcome(call), "IllegalStateException");
    }

    void missing(String name, Call call) {
        same(name, outcome(call), "NoSuchElementException");
    }

    static String outcome(Call call) {
        try {
            call.run();
            return "nothing thrown";
        } catch (RuntimeException e) {
            return e.getClass().getSimpleName();
        }
    }

    void memoryIs(DumpDesk desk, int address, int... words) {
        for (int k = 0; k < words.length; k++) {
            due("memory(" + (address + k) + ")", desk.memory(address + k), words[k]);
        }
    }

    void sectorIs(DumpDesk desk, int sector, int... words) {
        for (int k = 0; k < 8; k++) {
            due("area(" + sector + ", " + k + ")", desk.area(sector, k), words.length == 1 ? words[0] : words[k]);
        }
    }

    void end() {
        System.out.println(test + ": " + checks + " checks, " + wrong + " wrong");
        if (wrong != 0) {
            System.exit(1);
        }
    }
}
