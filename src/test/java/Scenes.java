/** Objects in the states from which the tests set out. */
final class Scenes {
    private Scenes() {
    }

    static Desk empty() {
        return new Desk();
    }

    /** Tasks at 16, 20, 24; timers at 28, 32; waiters at 36, 40 (queue 1) and 44 (queue 3); file pages 3 and 4. */
    static Desk busy() {
        Desk x = new Desk();
        x.taskNew(5);
        x.taskNew(-6);
        x.taskNew(7);
        x.timer(40);
        x.timer(30);
        x.waitOn(0, 1);
        x.waitOn(2, 1);
        x.waitOn(0, 3);
        x.file(true, 100);
        x.file(false, 200);
        x.log(9);
        x.log(8);
        return x;
    }

    static Desk halted() {
        Desk x = busy();
        x.halt();
        return x;
    }

    /** A poke that leaves every word as it was is a poke, too. */
    static Desk poked() {
        Desk x = busy();
        x.poke(7, 0);
        return x;
    }

    /** All 56 places are taken: 2 tasks, 2 waiters of queue 0, and timers. */
    static Desk fullOfNodes() {
        Desk x = new Desk();
        x.taskNew(1);
        x.taskNew(2);
        x.waitOn(0, 0);
        x.waitOn(1, 0);
        for (int k = 4; k < 56; k++) {
            x.timer(100 - k);
        }
        return x;
    }

    /** A task, a waiter and two timers fill page 1, files all others. */
    static Desk fullOfFiles() {
        Desk x = new Desk();
        x.taskNew(1);
        x.waitOn(0, 0);
        x.timer(1);
        x.timer(2);
        for (int page = 2; page <= 14; page++) {
            x.file(page % 2 == 0, page * 1000);
        }
        return x;
    }

    static Desk dumped() {
        Desk x = halted();
        x.dump(200);
        return x;
    }

    static Desk attached() {
        Desk x = dumped();
        x.attach();
        return x;
    }

    /** The list walked last is the queue 1 of two waiters. */
    static Desk walked() {
        Desk x = attached();
        x.walk(0);
        x.walk(3);
        return x;
    }

    /** The list walked last has two nodes and is broken behind them, at 41; the timers are broken at their head. */
    static Desk walkedBroken() {
        Desk x = busy();
        x.poke(41, 36);
        x.poke(1, 3);
        x.halt();
        x.dump(200);
        x.attach();
        x.walk(1);
        x.walk(3);
        return x;
    }

    /** Some sectors are bad, the first and the last one among them, and the kernel runs. */
    static Desk withBadSectors() {
        Desk x = busy();
        for (int sector : new int[] {0, 1, 4, 7, 50, 93, 95}) {
            x.sector(sector, true);
        }
        return x;
    }

    /** Attached, but the power went before page 0 was there. */
    static Desk withoutPageZero() {
        Desk x = halted();
        x.dump(1);
        x.attach();
        return x;
    }

    /** A dump of 49 sectors, the most there can be: all 16 pages, each of 17 words of packing, and the end. */
    static Desk largest() {
        Desk x = new Desk();
        for (int k = 1; k < 8; k++) {
            x.poke(k, k);
        }
        for (int page = 0; page < 16; page += 2) {
            x.poke(8 + page / 2, 1 + page + 0x100 * (2 + page + 1));
        }
        for (int page = 1; page < 16; page++) {
            for (int k = 0; k < 16; k++) {
                x.poke(page * 16 + k, page * 1000 + k);
            }
        }
        x.halt();
        return x;
    }
}
