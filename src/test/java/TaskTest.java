/** Promises 2 and 3: new tasks, their ends, and the places that nodes take and leave. */
public final class TaskTest {
    private static final Check CHECK = new Check("TaskTest");
    private static final Refusal REFUSED = new Refusal(CHECK);
    private static final int MIN = Integer.MIN_VALUE;
    private static final int MAX = Integer.MAX_VALUE;

    public static void main(String[] args) {
        CHECK.sentence("a NEW TASK comes to the end of the tasks", TaskTest::newTasks);
        CHECK.sentence("with the number of tasks there ever were as its number", TaskTest::numbers);
        CHECK.sentence("of a task its priority and its number", TaskTest::priorities);
        CHECK.sentence("A node is TAKEN where the tag is 0, in a USED page, the lowest such address",
                TaskTest::lowestPlace);
        CHECK.sentence("the lowest FREE page of 1 .. 14 becomes USED, all its words 0, and its first place is taken",
                TaskTest::freePage);
        CHECK.sentence("A node that GOES becomes four zeros.", TaskTest::goneNodes);
        CHECK.sentence("To END task i (the i-th of the list, from 0)", TaskTest::ends);
        CHECK.sentence("its waiters go from all queues, then it goes", TaskTest::waitersGo);
        CHECK.sentence("taskNew: IllegalStateException: refused.", TaskTest::newRefused);
        CHECK.sentence("taskEnd: NoSuchElementException: there is none", TaskTest::noSuchTask);
        CHECK.sentence("taskEnd: IllegalStateException: refused (this first).", TaskTest::endRefused);
        CHECK.end();
    }

    private static void newTasks() {
        Desk x = new Desk();
        x.taskNew(10);
        CHECK.memoryIs(x, 0, 16);
        CHECK.memoryIs(x, 16, 7001, 0, 10, 0, 0);
        x.taskNew(30);
        CHECK.memoryIs(x, 16, 7001, 20, 10, 0, 7001, 0, 30, 1, 0);
        x.taskNew(20);
        CHECK.memoryIs(x, 0, 16);
        CHECK.memoryIs(x, 16, 7001, 20, 10, 0, 7001, 24, 30, 1, 7001, 0, 20, 2, 0);
        x.taskEnd(0);
        x.taskNew(5);
        CHECK.memoryIs(x, 0, 20);
        CHECK.memoryIs(x, 16, 7001, 0, 5, 3, 7001, 24, 30, 1, 7001, 16, 20, 2, 0);
    }

    private static void numbers() {
        Desk x = new Desk();
        CHECK.due("first", x.taskNew(0), 0);
        CHECK.due("second", x.taskNew(0), 1);
        CHECK.due("taskEnd(1)", x.taskEnd(1), 1);
        CHECK.due("a number is never used again", x.taskNew(0), 2);
        x.taskEnd(1);
        x.taskEnd(0);
        CHECK.due("nor when there are no tasks any more", x.taskNew(0), 3);
        CHECK.memoryIs(x, 19, 3);
        x.timer(1);
        x.waitOn(0, 0);
        CHECK.due("timers and waiters do not count", x.taskNew(0), 4);
    }

    private static void priorities() {
        Desk x = new Desk();
        int[] priorities = {0, -1, MIN, MAX};
        for (int k = 0; k < 4; k++) {
            CHECK.due("taskNew(" + priorities[k] + ")", x.taskNew(priorities[k]), k);
            CHECK.memoryIs(x, 16 + 4 * k, 7001, 0, priorities[k], k);
        }
    }

    private static void lowestPlace() {
        Desk x = new Desk();
        for (int k = 0; k < 6; k++) {
            x.taskNew(k);
        }
        x.taskEnd(4);
        x.taskEnd(1);
        x.timer(9);
        CHECK.memoryIs(x, 1, 20);
        CHECK.memoryIs(x, 20, 7002, 0, 9, 0);
        x.timer(3);
        CHECK.memoryIs(x, 1, 32);
        CHECK.memoryIs(x, 32, 7002, 20, 3, 0);
        x.timer(4);
        CHECK.memoryIs(x, 33, 40);
        CHECK.memoryIs(x, 40, 7002, 20, 4, 0);
        Desk files = new Desk();
        files.file(true, 0);
        files.file(false, -4);
        files.taskNew(8);
        CHECK.memoryIs(files, 0, 48);
        CHECK.memoryIs(files, 16, 0, 1, 2, 3);
        CHECK.memoryIs(files, 32, -4, -3, -2, -1, 0, 1);
    }

    private static void freePage() {
        Desk x = new Desk();
        x.file(true, 1);
        x.taskNew(0);
        CHECK.memoryIs(x, 0, 32);
        CHECK.memoryIs(x, 8, 0x301, 1);
        x.file(false, 1);
        for (int k = 0; k < 3; k++) {
            x.timer(k);
        }
        CHECK.memoryIs(x, 8, 0x301, 0x201, 0);
        x.timer(3);
        CHECK.memoryIs(x, 8, 0x301, 0x201, 1);
        CHECK.memoryIs(x, 44, 7002, 64, 2, 0);
        CHECK.memoryIs(x, 64, 7002, 0, 3, 0, 0, 0, 0, 0, 0, 0, 0, 0, 0, 0, 0, 0);
        x.taskEnd(0);
        x.taskNew(7);
        CHECK.memoryIs(x, 0, 32);
        CHECK.memoryIs(x, 8, 0x301, 0x201, 1);
    }

    private static void goneNodes() {
        Desk x = new Desk();
        x.taskNew(-1);
        x.taskNew(-2);
        x.waitOn(1, 0);
        x.waitOn(1, 0);
        x.wake(0);
        CHECK.memoryIs(x, 24, 0, 0, 0, 0, 7003, 0, 20, 0);
        x.taskEnd(1);
        CHECK.memoryIs(x, 16, 7001, 0, -1, 0, 0, 0, 0, 0, 0, 0, 0, 0, 0, 0, 0, 0);
        x.taskEnd(0);
        CHECK.memoryIs(x, 16, new int[16]);
        CHECK.memoryIs(x, 0, 0, 0, 0, 0, 0, 0, 0, 0, 257, 0);
        CHECK.due("its page is USED still", x.file(true, 1), 2);
    }

    private static void ends() {
        Desk x = new Desk();
        for (int k = 0; k < 5; k++) {
            x.taskNew(10 + k);
        }
        CHECK.due("taskEnd of the last", x.taskEnd(4), 4);
        CHECK.memoryIs(x, 28, 7001, 0, 13, 3, 0, 0, 0, 0);
        CHECK.due("taskEnd of one between", x.taskEnd(1), 1);
        CHECK.memoryIs(x, 16, 7001, 24, 10, 0, 0, 0, 0, 0, 7001, 28, 12, 2);
        CHECK.due("the next has its place in the list", x.taskEnd(1), 2);
        CHECK.memoryIs(x, 16, 7001, 28, 10, 0);
        CHECK.due("taskEnd of the first", x.taskEnd(0), 0);
        CHECK.memoryIs(x, 0, 28);
        CHECK.due("taskEnd of the only one", x.taskEnd(0), 3);
        CHECK.memoryIs(x, 0, 0);
        CHECK.missing("taskEnd of none", () -> x.taskEnd(0));
        Desk most = new Desk();
        for (int k = 0; k < 56; k++) {
            most.taskNew(k);
        }
        CHECK.missing("taskEnd(56) of 56", () -> most.taskEnd(56));
        CHECK.due("taskEnd(55) of 56", most.taskEnd(55), 55);
        CHECK.missing("taskEnd(55) of 55", () -> most.taskEnd(55));
    }

    private static void waitersGo() {
        Desk x = new Desk();
        x.taskNew(0);
        x.taskNew(0);
        x.taskNew(0);
        x.timer(4);
        for (int queue = 0; queue < 4; queue++) {
            x.waitOn(1, queue);
            x.waitOn(1, queue);
            x.waitOn(queue < 2 ? 0 : 2, queue);
            x.waitOn(1, queue);
        }
        CHECK.due("taskEnd(1)", x.taskEnd(1), 1);
        CHECK.memoryIs(x, 0, 16, 28, 40, 56, 72, 88, 0, 0);
        CHECK.memoryIs(x, 16, 7001, 24, 0, 0, 0, 0, 0, 0, 7001, 0, 0, 2, 7002, 0, 4, 0);
        for (int queue = 0; queue < 4; queue++) {
            int task = queue < 2 ? 16 : 24;
            CHECK.memoryIs(x, 32 + 16 * queue, 0, 0, 0, 0, 0, 0, 0, 0, 7003, 0, task, 0, 0, 0, 0, 0);
        }
        CHECK.due("taskEnd(1)", x.taskEnd(1), 2);
        CHECK.memoryIs(x, 2, 40, 56, 0, 0);
        CHECK.due("wake(0)", x.wake(0), 0);
        CHECK.missing("wake(2)", () -> x.wake(2));
        othersStay();
    }

    /** How many words were logged stands behind the queues' heads, and here looks like a link to the task itself. */
    private static void othersStay() {
        Desk x = new Desk();
        for (int k = 0; k < 16; k++) {
            x.log(k);
        }
        x.taskNew(16);
        x.taskNew(16);
        x.timer(20);
        CHECK.due("taskEnd(1)", x.taskEnd(1), 1);
        CHECK.memoryIs(x, 0, 16, 24, 0, 0, 0, 0, 16, 0);
        CHECK.memoryIs(x, 16, 7001, 0, 16, 0, 0, 0, 0, 0, 7002, 0, 20, 0);
        CHECK.due("taskEnd(0)", x.taskEnd(0), 0);
        CHECK.memoryIs(x, 0, 0, 24, 0, 0, 0, 0, 16, 0);
        CHECK.memoryIs(x, 16, 0, 0, 0, 0, 0, 0, 0, 0, 7002, 0, 20, 0);
    }

    private static void newRefused() {
        REFUSED.state("halted taskNew", Scenes::halted, x -> x.taskNew(1));
        REFUSED.state("poked taskNew", Scenes::poked, x -> x.taskNew(1));
        REFUSED.state("taskNew full of nodes", Scenes::fullOfNodes, x -> x.taskNew(1));
        REFUSED.state("taskNew full of files", Scenes::fullOfFiles, x -> x.taskNew(1));
        Desk x = Scenes.fullOfNodes();
        CHECK.state("full taskNew", () -> x.taskNew(1));
        x.wake(0);
        CHECK.due("a task that was refused is none", x.taskNew(1), 2);
    }

    private static void noSuchTask() {
        REFUSED.missing("taskEnd(0) of none", Scenes::empty, x -> x.taskEnd(0));
        for (int i : new int[] {-1, 3, 4, MIN, MAX}) {
            REFUSED.missing("taskEnd(" + i + ") of three", Scenes::busy, x -> x.taskEnd(i));
        }
        CHECK.due("taskEnd(2) of three", Scenes.busy().taskEnd(2), 2);
        CHECK.due("taskEnd(0) of three", Scenes.busy().taskEnd(0), 0);
    }

    private static void endRefused() {
        for (int i : new int[] {0, 2, 3, -1, MAX}) {
            REFUSED.state("halted taskEnd(" + i + ")", Scenes::halted, x -> x.taskEnd(i));
            REFUSED.state("poked taskEnd(" + i + ")", Scenes::poked, x -> x.taskEnd(i));
        }
        CHECK.due("a full kernel refuses no end", Scenes.fullOfNodes().taskEnd(1), 1);
        CHECK.due("a full kernel refuses no end", Scenes.fullOfFiles().taskEnd(0), 0);
    }
}
