/** Promises 4 and 5: waiting on queues and waking. */
public final class QueueTest {
    private static final Check CHECK = new Check("QueueTest");
    private static final Refusal REFUSED = new Refusal(CHECK);
    private static final int MIN = Integer.MIN_VALUE;
    private static final int MAX = Integer.MAX_VALUE;

    public static void main(String[] args) {
        CHECK.sentence("To WAIT: a waiter of task i comes to the end of a queue.", QueueTest::waiters);
        CHECK.sentence("of a waiter the address of its task and 0", QueueTest::waiterWords);
        CHECK.sentence("waitOn: IllegalArgumentException: no such queue", QueueTest::noSuchQueue);
        CHECK.sentence("waitOn: NoSuchElementException: no such task", QueueTest::noSuchTask);
        CHECK.sentence("waitOn: IllegalStateException: refused (halted or poked first of all, full last).",
                QueueTest::waitRefused);
        CHECK.sentence("To WAKE: the first waiter of a queue goes.", QueueTest::wakes);
        CHECK.sentence("wake: IllegalArgumentException: no such queue", QueueTest::wakeNoSuchQueue);
        CHECK.sentence("wake: NoSuchElementException: nobody waits there", QueueTest::nobodyWaits);
        CHECK.sentence("wake: IllegalStateException: refused (this first).", QueueTest::wakeRefused);
        CHECK.end();
    }

    private static void waiters() {
        Desk x = new Desk();
        x.taskNew(0);
        x.taskNew(0);
        x.waitOn(1, 3);
        CHECK.memoryIs(x, 2, 0, 0, 0, 24);
        CHECK.memoryIs(x, 24, 7003, 0, 20, 0);
        x.waitOn(0, 3);
        x.waitOn(1, 3);
        CHECK.memoryIs(x, 2, 0, 0, 0, 24);
        CHECK.memoryIs(x, 24, 7003, 28, 20, 0, 7003, 32, 16, 0, 7003, 0, 20, 0);
        x.waitOn(0, 0);
        CHECK.memoryIs(x, 2, 36, 0, 0, 24);
        CHECK.memoryIs(x, 0, 16, 0);
    }

    /** The waiter has the task's address, whatever place in the list the task has. */
    private static void waiterWords() {
        Desk x = new Desk();
        x.taskNew(0);
        x.taskNew(0);
        x.taskNew(0);
        x.taskEnd(0);
        x.taskNew(0);
        x.waitOn(2, 1);
        x.waitOn(0, 1);
        CHECK.memoryIs(x, 28, 7003, 32, 16, 0, 7003, 0, 20, 0);
        CHECK.due("wake(1)", x.wake(1), 3);
        CHECK.due("wake(1)", x.wake(1), 1);
        Desk most = new Desk();
        most.taskNew(0);
        for (int k = 1; k < 56; k++) {
            most.waitOn(0, 2);
        }
        CHECK.memoryIs(most, 236, 7003, 0, 16, 0);
        CHECK.due("taskEnd", most.taskEnd(0), 0);
        CHECK.memoryIs(most, 4, 0);
        CHECK.memoryIs(most, 232, 0, 0, 0, 0, 0, 0, 0, 0);
    }

    private static void noSuchQueue() {
        for (int queue : new int[] {-1, 4, 5, MIN, MAX}) {
            REFUSED.argument("waitOn(0, " + queue + ")", Scenes::busy, x -> x.waitOn(0, queue));
            REFUSED.argumentOrMissing("waitOn(3, " + queue + ")", Scenes::busy, x -> x.waitOn(3, queue));
        }
        Desk x = Scenes.busy();
        x.waitOn(0, 0);
        x.waitOn(0, 3);
        CHECK.memoryIs(x, 2, 80);
        CHECK.memoryIs(x, 45, 84);
    }

    private static void noSuchTask() {
        REFUSED.missing("waitOn(0, 0) without tasks", Scenes::empty, x -> x.waitOn(0, 0));
        for (int i : new int[] {-1, 3, 4, MIN, MAX}) {
            REFUSED.missing("waitOn(" + i + ", 0) of three tasks", Scenes::busy, x -> x.waitOn(i, 0));
            REFUSED.missing("waitOn(" + i + ", 3) of three tasks", Scenes::busy, x -> x.waitOn(i, 3));
        }
        Desk x = Scenes.busy();
        x.waitOn(2, 0);
        CHECK.memoryIs(x, 80, 7003, 0, 24, 0);
    }

    private static void waitRefused() {
        int[][] all = {{0, 0}, {3, 0}, {-1, 3}, {0, -1}, {0, 4}, {3, 4}, {MIN, MAX}};
        for (int[] a : all) {
            String call = "waitOn(" + a[0] + ", " + a[1] + ")";
            REFUSED.state("halted " + call, Scenes::halted, x -> x.waitOn(a[0], a[1]));
            REFUSED.state("poked " + call, Scenes::poked, x -> x.waitOn(a[0], a[1]));
        }
        REFUSED.state("waitOn full of nodes", Scenes::fullOfNodes, x -> x.waitOn(0, 0));
        REFUSED.argument("waitOn(0, 4) full of nodes", Scenes::fullOfNodes, x -> x.waitOn(0, 4));
        REFUSED.argument("waitOn(0, -1) full of nodes", Scenes::fullOfNodes, x -> x.waitOn(0, -1));
        REFUSED.missing("waitOn(2, 0) full of nodes", Scenes::fullOfNodes, x -> x.waitOn(2, 0));
        REFUSED.missing("waitOn(-1, 0) full of nodes", Scenes::fullOfNodes, x -> x.waitOn(-1, 0));
        REFUSED.state("waitOn full of files", Scenes::fullOfFiles, x -> x.waitOn(0, 3));
        REFUSED.argument("waitOn(0, 4) full of files", Scenes::fullOfFiles, x -> x.waitOn(0, 4));
        REFUSED.missing("waitOn(1, 3) full of files", Scenes::fullOfFiles, x -> x.waitOn(1, 3));
    }

    private static void wakes() {
        Desk x = new Desk();
        x.taskNew(0);
        x.taskNew(0);
        for (int queue = 0; queue < 4; queue++) {
            x.waitOn(1, queue);
            x.waitOn(0, queue);
            x.waitOn(1, queue);
        }
        for (int queue = 3; queue >= 0; queue--) {
            int q = queue;
            int first = 24 + 12 * queue;
            CHECK.due("first wake(" + q + ")", x.wake(queue), 1);
            CHECK.memoryIs(x, 2 + queue, first + 4);
            CHECK.memoryIs(x, first, 0, 0, 0, 0, 7003, first + 8, 16, 0);
            CHECK.due("second wake(" + q + ")", x.wake(queue), 0);
            CHECK.due("third wake(" + q + ")", x.wake(queue), 1);
            CHECK.memoryIs(x, 2 + queue, 0);
            CHECK.missing("fourth wake(" + q + ")", () -> x.wake(q));
        }
        CHECK.memoryIs(x, 16, 7001, 20, 0, 0, 7001, 0, 0, 1, 0, 0, 0, 0, 0, 0, 0, 0);
    }

    private static void wakeNoSuchQueue() {
        for (int queue : new int[] {-1, 4, 5, MIN, MAX}) {
            REFUSED.argument("wake(" + queue + ")", Scenes::busy, x -> x.wake(queue));
        }
    }

    private static void nobodyWaits() {
        REFUSED.missing("wake(0) of a new object", Scenes::empty, x -> x.wake(0));
        REFUSED.missing("wake(3) of a new object", Scenes::empty, x -> x.wake(3));
        REFUSED.missing("wake(0) among others", Scenes::busy, x -> x.wake(0));
        REFUSED.missing("wake(2) among others", Scenes::busy, x -> x.wake(2));
        Desk x = Scenes.busy();
        CHECK.due("wake(3)", x.wake(3), 0);
        CHECK.missing("wake(3) once more", () -> x.wake(3));
        x.waitOn(1, 3);
        CHECK.due("wake(3) of another", x.wake(3), 1);
        CHECK.due("wake(1)", x.wake(1), 0);
        CHECK.due("wake(1)", x.wake(1), 2);
    }

    private static void wakeRefused() {
        for (int queue : new int[] {1, 0, -1, 4, MAX}) {
            REFUSED.state("halted wake(" + queue + ")", Scenes::halted, x -> x.wake(queue));
            REFUSED.state("poked wake(" + queue + ")", Scenes::poked, x -> x.wake(queue));
        }
        CHECK.due("a full kernel refuses no wake", Scenes.fullOfNodes().wake(0), 0);
        CHECK.due("a full kernel refuses no wake", Scenes.fullOfFiles().wake(0), 0);
    }
}
