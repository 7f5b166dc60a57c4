/**
 * Questions to an object whose answers tell one part of its state; each kind needs an object of its own, for an object
 * has 512 calls alone. Two objects in the same state answer alike.
 */
enum Probe {
    MEMORY, AREA_LOW, AREA_MIDDLE, AREA_HIGH, WORDS, WALKED, KERNEL, DUMP, SECTORS, LAST_SECTORS, WALKER;

    private static final int LAST = 92;

    private interface Question {
        int ask();
    }

    String answers(Desk desk) {
        StringBuilder text = new StringBuilder();
        switch (this) {
            case MEMORY -> memory(desk, text);
            case AREA_LOW -> area(desk, 0, text);
            case AREA_MIDDLE -> area(desk, 32, text);
            case AREA_HIGH -> area(desk, 64, text);
            case WORDS -> words(desk, text);
            case WALKED -> walked(desk, text);
            case KERNEL -> kernelGoesOn(desk, text);
            case DUMP -> dumpGoesOn(desk, text);
            case SECTORS -> sectors(desk, text);
            case LAST_SECTORS -> lastSectors(desk, text);
            default -> walkerGoesOn(desk, text);
        }
        return text.toString();
    }

    private static void add(StringBuilder text, Question question) {
        String answer;
        try {
            answer = String.valueOf(question.ask());
        } catch (RuntimeException e) {
            answer = e.getClass().getSimpleName();
        }
        text.append(answer).append(' ');
    }

    private static void memory(Desk x, StringBuilder text) {
        for (int address = 0; address < 256; address++) {
            int at = address;
            add(text, () -> x.memory(at));
        }
    }

    private static void area(Desk x, int from, StringBuilder text) {
        for (int sector = from; sector < from + 32; sector++) {
            for (int word = 0; word < 8; word++) {
                int s = sector;
                int w = word;
                add(text, () -> x.area(s, w));
            }
        }
    }

    private static void words(Desk x, StringBuilder text) {
        for (int address = 0; address < 256; address++) {
            int at = address;
            add(text, () -> x.word(at));
        }
    }

    private static void walked(Desk x, StringBuilder text) {
        add(text, () -> x.broken(0));
        add(text, () -> x.broken(1));
        for (int node = 0; node <= 56; node++) {
            for (int what = 0; what < 3; what++) {
                int k = node;
                int w = what;
                add(text, () -> x.node(k, w));
            }
        }
    }

    private static void kernelGoesOn(Desk x, StringBuilder text) {
        add(text, () -> x.wake(1));
        add(text, () -> x.taskNew(11));
        add(text, () -> {
            x.waitOn(0, 2);
            return 0;
        });
        add(text, () -> {
            x.timer(35);
            return 0;
        });
        add(text, () -> x.file(true, 300));
        add(text, () -> {
            x.log(33);
            return 0;
        });
        add(text, () -> x.taskEnd(0));
        memory(x, text);
    }

    private static void dumpGoesOn(Desk x, StringBuilder text) {
        x.halt();
        add(text, () -> x.dump(200));
        for (int sector = 0; sector < 96; sector++) {
            int s = sector;
            add(text, () -> x.area(s, 0));
            add(text, () -> x.area(s, 7));
        }
        add(text, x::attach);
    }

    /** Which sectors are bad: two by two they are declared bad, and each time a dump takes the good ones behind them. */
    private static void sectors(Desk x, StringBuilder text) {
        x.halt();
        for (int from = 0; from < LAST; from += 2) {
            add(text, () -> x.dump(200));
            for (int sector = from; sector < from + 2; sector++) {
                int s = sector;
                add(text, () -> x.area(s, 0));
                add(text, () -> x.area(s, 7));
                x.sector(s, true);
            }
        }
    }

    /** And which of the last ones, where no chunk might fit: good ones before them, more and more, until all fit. */
    private static void lastSectors(Desk x, StringBuilder text) {
        x.halt();
        for (int sector = 0; sector < LAST; sector++) {
            x.sector(sector, true);
        }
        for (int good = 0; good < 50; good++) {
            add(text, () -> x.dump(200));
            for (int sector = LAST; sector < 96; sector++) {
                int s = sector;
                add(text, () -> x.area(s, 0));
            }
            x.sector(good, false);
        }
    }

    private static void walkerGoesOn(Desk x, StringBuilder text) {
        for (int list = 0; list < 6; list++) {
            int l = list;
            add(text, () -> x.walk(l));
            add(text, () -> x.broken(1));
        }
        add(text, x::attach);
        add(text, () -> x.walk(0));
    }
}
