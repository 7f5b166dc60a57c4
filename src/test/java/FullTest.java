/** The places of nodes and the pages of files: the last one that there is, and FULL. */
public final class FullTest {
    private static final Check CHECK = new Check("FullTest");

    public static void main(String[] args) {
        CHECK.sentence("NODES are four words at an address that is a multiple of 4, in the pages 1 .. 14",
                FullTest::everyPlace);
        CHECK.sentence("without one it is FULL", FullTest::lastPlaceOfEachKind);
        CHECK.sentence("without one it is FULL, until a node goes", FullTest::placeGivenBack);
        CHECK.sentence("without one it is FULL: files leave one page to nodes", FullTest::onePageForNodes);
        CHECK.sentence("A FILE page: the lowest FREE page of 1 .. 14; without one it is FULL", FullTest::files);
        CHECK.sentence("a file is FULL without a FREE page, though nodes have places", FullTest::usedPagesAreNotFree);
        CHECK.sentence("refused when it would be FULL: a call that takes nothing is not", FullTest::notRefused);
        CHECK.end();
    }

    private static void everyPlace() {
        Desk x = new Desk();
        x.log(-5);
        for (int k = 0; k < 56; k++) {
            CHECK.due("taskNew", x.taskNew(k), k);
            CHECK.memoryIs(x, 16 + 4 * k, 7001, 0, k, k);
        }
        CHECK.memoryIs(x, 8, 257, 257, 257, 257, 257, 257, 257, 257);
        CHECK.memoryIs(x, 0, 16, 0, 0, 0, 0, 0, 1, 0);
        CHECK.memoryIs(x, 240, -5, 0, 0, 0, 0, 0, 0, 0, 0, 0, 0, 0, 0, 0, 0, 0);
        CHECK.state("the 57th", () -> x.taskNew(0));
        CHECK.memoryIs(x, 237, 0);
        CHECK.memoryIs(x, 240, -5, 0, 0, 0, 0, 0, 0, 0, 0, 0, 0, 0, 0, 0, 0, 0);
    }

    private static Desk nodes(int count) {
        Desk x = new Desk();
        x.taskNew(3);
        for (int k = 1; k < count; k++) {
            x.timer(k);
        }
        return x;
    }

    private static void lastPlaceOfEachKind() {
        Desk task = nodes(55);
        CHECK.due("taskNew as the 56th", task.taskNew(4), 1);
        CHECK.memoryIs(task, 236, 7001, 0, 4, 1, 0);
        CHECK.state("taskNew as the 57th", () -> task.taskNew(4));
        Desk timer = nodes(55);
        timer.timer(99);
        CHECK.memoryIs(timer, 236, 7002, 0, 99, 0, 0);
        CHECK.state("timer as the 57th", () -> timer.timer(99));
        Desk waiter = nodes(55);
        waiter.waitOn(0, 3);
        CHECK.memoryIs(waiter, 236, 7003, 0, 16, 0, 0);
        CHECK.state("waitOn as the 57th", () -> waiter.waitOn(0, 3));
        CHECK.state("file", () -> waiter.file(true, 1));
    }

    private static void placeGivenBack() {
        Desk x = nodes(56);
        x.taskEnd(0);
        CHECK.due("taskNew in its place", x.taskNew(8), 1);
        CHECK.memoryIs(x, 0, 16);
        CHECK.state("taskNew once more", () -> x.taskNew(8));
        Desk y = nodes(55);
        y.waitOn(0, 1);
        y.wake(1);
        y.timer(1000);
        CHECK.memoryIs(y, 236, 7002, 0, 1000, 0, 0);
        CHECK.state("waitOn once more", () -> y.waitOn(0, 1));
    }

    private static void onePageForNodes() {
        Desk x = new Desk();
        for (int page = 1; page <= 13; page++) {
            CHECK.due("file", x.file(true, page), page);
        }
        for (int k = 0; k < 4; k++) {
            CHECK.due("taskNew", x.taskNew(0), k);
        }
        CHECK.memoryIs(x, 0, 224);
        CHECK.state("a fifth", () -> x.taskNew(0));
        CHECK.state("a fifth", () -> x.timer(0));
        CHECK.state("a fifth", () -> x.waitOn(0, 0));
        x.taskEnd(3);
        CHECK.due("taskNew", x.taskNew(0), 4);
        Desk none = new Desk();
        for (int page = 1; page <= 14; page++) {
            none.file(false, 0);
        }
        CHECK.state("taskNew among files", () -> none.taskNew(0));
        CHECK.state("timer among files", () -> none.timer(0));
        CHECK.memoryIs(none, 0, 0, 0, 0, 0, 0, 0, 0, 0, 513, 514, 514, 514, 514, 514, 514, 258);
    }

    private static void files() {
        Desk x = new Desk();
        for (int page = 1; page <= 14; page++) {
            CHECK.due("file", x.file(page % 2 == 0, page), page);
        }
        CHECK.memoryIs(x, 8, 513, 515, 515, 515, 515, 515, 515, 259);
        CHECK.memoryIs(x, 224, 14, 15);
        CHECK.memoryIs(x, 239, 29, 0);
        CHECK.state("a 15th", () -> x.file(true, 9));
        CHECK.state("a 15th", () -> x.file(false, 9));
        CHECK.memoryIs(x, 0, 0, 0, 0, 0, 0, 0, 0, 0, 513, 515, 515, 515, 515, 515, 515, 259);
        CHECK.memoryIs(x, 239, 29, 0);
    }

    private static void usedPagesAreNotFree() {
        Desk x = nodes(52);
        CHECK.due("the last page", x.file(true, 1), 14);
        CHECK.state("a node", () -> x.timer(1));
        Desk y = nodes(53);
        CHECK.state("no page", () -> y.file(true, 1));
        y.timer(1);
        y.waitOn(0, 0);
        CHECK.due("the last node", y.taskNew(1), 1);
        CHECK.state("one node more", () -> y.taskNew(1));
        Desk gone = new Desk();
        gone.taskNew(1);
        gone.taskEnd(0);
        for (int page = 2; page <= 14; page++) {
            CHECK.due("file", gone.file(false, 0), page);
        }
        CHECK.state("a page whose nodes have gone", () -> gone.file(false, 0));
        CHECK.due("taskNew", gone.taskNew(2), 1);
    }

    private static void notRefused() {
        Desk x = Scenes.fullOfNodes();
        x.log(4);
        CHECK.memoryIs(x, 240, 4);
        CHECK.due("wake(0)", x.wake(0), 0);
        Desk y = Scenes.fullOfNodes();
        CHECK.due("taskEnd(1)", y.taskEnd(1), 1);
        Desk z = Scenes.fullOfNodes();
        z.poke(255, 6);
        CHECK.memoryIs(z, 255, 6);
    }
}
