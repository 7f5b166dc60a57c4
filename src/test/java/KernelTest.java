/** Promises 1 to 10: a new object, the kernel's calls, poke and memory. */
public final class KernelTest {
    private static final Check CHECK = new Check("KernelTest");

    public static void main(String[] args) {
        newObject();
        newTasks();
        placesAreTakenLowestFirst();
        endedTasks();
        endedTaskLosesItsWaiters();
        waiters();
        waitOnExceptionsInOrder();
        wakeExceptionsInOrder();
        timers();
        files();
        filesAndNodesShareThePages();
        fullOfNodes();
        fullOfFiles();
        logged();
        poked();
        halted();
        memoryEdges();
        CHECK.end();
    }

    private static void newObject() {
        DumpDesk x = new DumpDesk();
        for (int address = 0; address < 256; address++) {
            CHECK.due("new memory(" + address + ")", x.memory(address), address == 8 ? 1 : address == 15 ? 256 : 0);
        }
        for (int sector = 0; sector < 96; sector++) {
            CHECK.sectorIs(x, sector, -1);
        }
        CHECK.state("new dump", () -> x.dump(1));
        CHECK.state("new walk", () -> x.walk(0));
        CHECK.state("new broken", () -> x.broken(0));
        CHECK.state("new node", () -> x.node(0, 0));
        CHECK.missing("new word", () -> x.word(0));
        x.halt();
        CHECK.due("dump of a new object", x.dump(4), 0);
    }

    private static void newTasks() {
        DumpDesk x = new DumpDesk();
        CHECK.due("first taskNew", x.taskNew(-5), 0);
        CHECK.memoryIs(x, 0, 16);
        CHECK.memoryIs(x, 16, 7001, 0, -5, 0);
        CHECK.due("second taskNew", x.taskNew(Integer.MAX_VALUE), 1);
        CHECK.memoryIs(x, 16, 7001, 20, -5, 0, 7001, 0, Integer.MAX_VALUE, 1, 0);
        CHECK.memoryIs(x, 8, 257, 0);
        CHECK.due("taskEnd of the last", x.taskEnd(1), 1);
        CHECK.due("a number is never used again", x.taskNew(0), 2);
        CHECK.memoryIs(x, 16, 7001, 20, -5, 0, 7001, 0, 0, 2);
    }

    private static void placesAreTakenLowestFirst() {
        DumpDesk x = new DumpDesk();
        for (int k = 0; k < 6; k++) {
            x.taskNew(k);
        }
        CHECK.memoryIs(x, 8, 257, 1);
        x.taskEnd(4);
        x.taskEnd(1);
        x.timer(9);
        CHECK.memoryIs(x, 1, 20);
        CHECK.memoryIs(x, 20, 7002, 0, 9, 0);
        x.timer(3);
        CHECK.memoryIs(x, 1, 32);
        CHECK.memoryIs(x, 32, 7002, 20, 3, 0);
        x.timer(4);
        CHECK.memoryIs(x, 32, 7002, 40);
    }

    private static void endedTasks() {
        DumpDesk x = new DumpDesk();
        CHECK.missing("taskEnd without tasks", () -> x.taskEnd(0));
        x.taskNew(10);
        x.taskNew(11);
        x.taskNew(12);
        CHECK.missing("taskEnd(-1)", () -> x.taskEnd(-1));
        CHECK.missing("taskEnd(3)", () -> x.taskEnd(3));
        CHECK.missing("taskEnd(MIN)", () -> x.taskEnd(Integer.MIN_VALUE));
        CHECK.missing("taskEnd(MAX)", () -> x.taskEnd(Integer.MAX_VALUE));
        CHECK.due("taskEnd of the middle", x.taskEnd(1), 1);
        CHECK.memoryIs(x, 16, 7001, 24, 10, 0, 0, 0, 0, 0, 7001, 0, 12, 2);
        CHECK.due("taskEnd of the first", x.taskEnd(0), 0);
        CHECK.memoryIs(x, 0, 24);
        CHECK.due("taskEnd of the only one", x.taskEnd(0), 2);
        CHECK.memoryIs(x, 0, 0);
        CHECK.memoryIs(x, 16, new int[16]);
        CHECK.memoryIs(x, 8, 257);
    }

    private static void endedTaskLosesItsWaiters() {
        DumpDesk x = new DumpDesk();
        x.taskNew(0);
        x.taskNew(0);
        for (int queue = 0; queue < 4; queue++) {
            x.waitOn(1, queue);
            x.waitOn(1, queue);
            x.waitOn(0, queue);
            x.waitOn(1, queue);
        }
        CHECK.due("taskEnd(1)", x.taskEnd(1), 1);
        CHECK.memoryIs(x, 0, 16, 0, 32, 48, 64, 80, 0, 0);
        for (int queue = 0; queue < 4; queue++) {
            CHECK.memoryIs(x, 24 + 16 * queue, 0, 0, 0, 0, 0, 0, 0, 0, 7003, 0, 16, 0, 0, 0, 0, 0);
        }
        CHECK.memoryIs(x, 20, 0, 0, 0, 0);
    }

    private static void waiters() {
        DumpDesk x = new DumpDesk();
        x.taskNew(0);
        x.taskNew(0);
        x.waitOn(1, 3);
        x.waitOn(0, 3);
        x.waitOn(1, 3);
        CHECK.memoryIs(x, 2, 0, 0, 0, 24);
        CHECK.memoryIs(x, 24, 7003, 28, 20, 0, 7003, 32, 16, 0, 7003, 0, 20, 0);
        CHECK.due("first wake", x.wake(3), 1);
        CHECK.memoryIs(x, 5, 28);
        CHECK.memoryIs(x, 24, 0, 0, 0, 0);
        CHECK.due("second wake", x.wake(3), 0);
        CHECK.due("third wake", x.wake(3), 1);
        CHECK.missing("fourth wake", () -> x.wake(3));
        CHECK.memoryIs(x, 5, 0);
    }

    private static void waitOnExceptionsInOrder() {
        DumpDesk x = new DumpDesk();
        CHECK.argument("waitOn(0, -1)", () -> x.waitOn(0, -1));
        CHECK.argument("waitOn(0, 4) without a task", () -> x.waitOn(0, 4));
        CHECK.missing("waitOn(0, 0) without a task", () -> x.waitOn(0, 0));
        x.taskNew(0);
        CHECK.missing("waitOn(-1, 0)", () -> x.waitOn(-1, 0));
        CHECK.missing("waitOn(1, 0)", () -> x.waitOn(1, 0));
        for (int k = 1; k < 56; k++) {
            x.timer(k);
        }
        CHECK.argument("full waitOn(0, 4)", () -> x.waitOn(0, 4));
        CHECK.missing("full waitOn(1, 0)", () -> x.waitOn(1, 0));
        CHECK.state("full waitOn(0, 0)", () -> x.waitOn(0, 0));
        CHECK.memoryIs(x, 2, 0, 0, 0, 0);
        x.halt();
        CHECK.state("halted waitOn(1, 4)", () -> x.waitOn(1, 4));
    }

    private static void wakeExceptionsInOrder() {
        DumpDesk x = new DumpDesk();
        CHECK.argument("wake(-1)", () -> x.wake(-1));
        CHECK.argument("wake(4)", () -> x.wake(4));
        CHECK.missing("wake(0)", () -> x.wake(0));
        x.poke(7, 0);
        CHECK.state("poked wake(4)", () -> x.wake(4));
        CHECK.state("poked wake(0)", () -> x.wake(0));
    }

    private static void timers() {
        DumpDesk x = new DumpDesk();
        x.timer(5);
        x.timer(Integer.MIN_VALUE);
        x.timer(5);
        x.timer(Integer.MAX_VALUE);
        x.timer(0);
        CHECK.memoryIs(x, 1, 20);
        CHECK.memoryIs(x, 16, 7002, 24, 5, 0);
        CHECK.memoryIs(x, 20, 7002, 32, Integer.MIN_VALUE, 0);
        CHECK.memoryIs(x, 24, 7002, 28, 5, 0);
        CHECK.memoryIs(x, 28, 7002, 0, Integer.MAX_VALUE, 0);
        CHECK.memoryIs(x, 32, 7002, 16, 0, 0);
    }

    private static void files() {
        DumpDesk x = new DumpDesk();
        CHECK.due("clean file", x.file(false, 100), 1);
        CHECK.due("dirty file", x.file(true, Integer.MAX_VALUE - 1), 2);
        CHECK.memoryIs(x, 8, 1 + 256 * 2, 3);
        for (int k = 0; k < 16; k++) {
            CHECK.memoryIs(x, 16 + k, 100 + k);
            CHECK.memoryIs(x, 32 + k, Integer.MAX_VALUE - 1 + k);
        }
        CHECK.memoryIs(x, 48, 0);
    }

    private static void filesAndNodesShareThePages() {
        DumpDesk x = new DumpDesk();
        x.file(true, 0);
        CHECK.due("taskNew", x.taskNew(1), 0);
        CHECK.memoryIs(x, 0, 32);
        CHECK.memoryIs(x, 16, 0, 1);
        CHECK.due("second file", x.file(false, 0), 3);
        for (int k = 0; k < 4; k++) {
            x.timer(k);
        }
        CHECK.memoryIs(x, 44, 7002, 64, 2, 0);
        CHECK.memoryIs(x, 64, 7002, 0, 3, 0);
        x.taskEnd(0);
        CHECK.due("a used page is never free again", x.file(true, 0), 5);
    }

    private static void fullOfNodes() {
        DumpDesk x = new DumpDesk();
        for (int k = 0; k < 56; k++) {
            CHECK.due("taskNew", x.taskNew(k), k);
        }
        CHECK.memoryIs(x, 236, 7001, 0, 55, 55, 0);
        CHECK.memoryIs(x, 8, 257, 257, 257, 257, 257, 257, 257, 257);
        CHECK.state("full taskNew", () -> x.taskNew(0));
        CHECK.state("full timer", () -> x.timer(0));
        CHECK.state("full waitOn", () -> x.waitOn(0, 0));
        CHECK.state("full file", () -> x.file(true, 0));
        x.log(4);
        CHECK.memoryIs(x, 240, 4);
        CHECK.missing("taskEnd(56)", () -> x.taskEnd(56));
        CHECK.due("full taskEnd", x.taskEnd(55), 55);
        CHECK.due("refused tasks were none", x.taskNew(0), 56);
    }

    private static void fullOfFiles() {
        DumpDesk x = new DumpDesk();
        for (int k = 1; k <= 14; k++) {
            CHECK.due("file", x.file(k % 2 == 0, k), k);
        }
        CHECK.state("full file", () -> x.file(true, 0));
        CHECK.state("taskNew among files", () -> x.taskNew(0));
        CHECK.memoryIs(x, 0, 0, 0, 0, 0, 0, 0, 0, 0, 513, 515, 515, 515, 515, 515, 515, 259);
        CHECK.memoryIs(x, 239, 14 + 15, 0);
    }

    private static void logged() {
        DumpDesk x = new DumpDesk();
        for (int k = 0; k < 35; k++) {
            x.log(1000 + k);
        }
        CHECK.memoryIs(x, 6, 35, 0);
        for (int k = 0; k < 16; k++) {
            CHECK.memoryIs(x, 240 + k, k < 3 ? 1032 + k : 1016 + k);
        }
    }

    private static void poked() {
        DumpDesk x = new DumpDesk();
        x.taskNew(0);
        CHECK.argument("poke(-1)", () -> x.poke(-1, 1));
        CHECK.argument("poke(256)", () -> x.poke(256, 1));
        CHECK.due("a poke that was none changes nothing", x.taskNew(0), 1);
        x.poke(255, 9);
        x.poke(0, x.memory(0));
        CHECK.memoryIs(x, 255, 9);
        refusesAll("poked", x);
        x.poke(0, -7);
        CHECK.memoryIs(x, 0, -7);
    }

    private static void halted() {
        DumpDesk x = new DumpDesk();
        x.taskNew(0);
        x.waitOn(0, 0);
        x.halt();
        x.halt();
        refusesAll("halted", x);
        CHECK.state("halted poke", () -> x.poke(0, 1));
        CHECK.argument("halted poke(256)", () -> x.poke(256, 1));
        CHECK.memoryIs(x, 0, 16, 0, 20, 0, 0, 0, 0, 0, 257);
        CHECK.memoryIs(x, 16, 7001, 0, 0, 0, 7003, 0, 16, 0);
    }

    private static void refusesAll(String how, DumpDesk x) {
        CHECK.state(how + " taskNew", () -> x.taskNew(0));
        CHECK.state(how + " taskEnd", () -> x.taskEnd(0));
        CHECK.state(how + " taskEnd(-1)", () -> x.taskEnd(-1));
        CHECK.state(how + " waitOn", () -> x.waitOn(0, 0));
        CHECK.state(how + " waitOn(9, 9)", () -> x.waitOn(9, 9));
        CHECK.state(how + " wake", () -> x.wake(0));
        CHECK.state(how + " wake(9)", () -> x.wake(9));
        CHECK.state(how + " timer", () -> x.timer(0));
        CHECK.state(how + " file", () -> x.file(true, 0));
        CHECK.state(how + " log", () -> x.log(0));
    }

    private static void memoryEdges() {
        DumpDesk x = new DumpDesk();
        CHECK.argument("memory(-1)", () -> x.memory(-1));
        CHECK.argument("memory(256)", () -> x.memory(256));
        CHECK.argument("memory(MIN)", () -> x.memory(Integer.MIN_VALUE));
        CHECK.argument("memory(MAX)", () -> x.memory(Integer.MAX_VALUE));
    }
}
