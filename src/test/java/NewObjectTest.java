/** Promise 1: a new object, and memory, pages and map as the kernel leaves them. */
public final class NewObjectTest {
    private static final Check CHECK = new Check("NewObjectTest");

    public static void main(String[] args) {
        CHECK.sentence("At first all words are 0, but the flags of pages 0 and 15 are 1.",
                NewObjectTest::firstWords);
        CHECK.sentence("Each is ERASED (all words -1) at first",
                NewObjectTest::firstArea);
        CHECK.sentence("Memory as said, not halted", NewObjectTest::notHalted);
        CHECK.sentence("no bad sectors", NewObjectTest::noBadSectors);
        CHECK.sentence("any power", NewObjectTest::anyPower);
        CHECK.sentence("nothing attached", NewObjectTest::nothingAttached);
        CHECK.sentence("A new object", NewObjectTest::objectsAreApart);
        CHECK.sentence("the FLAG of page k are the lowest 8 bits (k even) or the next 8 (k odd) of word 8 + k / 2",
                NewObjectTest::flags);
        CHECK.sentence("other bits of these words are 0 as the kernel leaves them", NewObjectTest::flagsAlone);
        CHECK.sentence("Page 0: word 0 HEAD of the tasks, 1 of the timers, 2 .. 5 of the queues 0 .. 3, "
                + "6 how many words were logged, 7 is 0", NewObjectTest::pageZero);
        CHECK.sentence("An object is used for at most 512 calls", NewObjectTest::longestRun);
        CHECK.end();
    }

    private static void firstWords() {
        Desk x = new Desk();
        for (int address = 0; address < 256; address++) {
            CHECK.memoryIs(x, address, address == 8 ? 1 : address == 15 ? 256 : 0);
        }
    }

    private static void firstArea() {
        for (int from = 0; from < 96; from += 48) {
            CHECK.erased(new Desk(), from, from + 48);
            CHECK.erased(Scenes.busy(), from, from + 48);
            CHECK.erased(Scenes.poked(), from, from + 48);
            CHECK.erased(Scenes.halted(), from, from + 48);
        }
    }

    private static void notHalted() {
        Desk x = new Desk();
        CHECK.state("new dump(0)", () -> x.dump(0));
        CHECK.state("new dump(200)", () -> x.dump(200));
        x.poke(255, 1);
        CHECK.memoryIs(x, 255, 1);
        CHECK.due("new taskNew", new Desk().taskNew(0), 0);
    }

    /** Behind 47 bad sectors the largest dump takes each of the other 49, and without them the first 49. */
    private static void noBadSectors() {
        Desk low = Scenes.largest();
        CHECK.due("dump", low.dump(200), 0);
        for (int sector = 0; sector < 48; sector += 3) {
            CHECK.due("area(" + sector + ", 0)", low.area(sector, 0), 50000 + sector / 3);
        }
        CHECK.due("area(48, 0)", low.area(48, 0), 50016);
        Desk high = Scenes.largest();
        for (int sector = 0; sector < 47; sector++) {
            high.sector(sector, true);
        }
        CHECK.due("dump", high.dump(200), 0);
        for (int sector = 47; sector < 95; sector += 3) {
            CHECK.due("area(" + sector + ", 0)", high.area(sector, 0), 50000 + (sector - 47) / 3);
        }
        CHECK.due("area(95, 0)", high.area(95, 0), 50016);
    }

    private static void anyPower() {
        Desk least = new Desk();
        least.halt();
        CHECK.due("dump(0)", least.dump(0), 2);
        CHECK.due("dump(3)", least.dump(3), 0);
        Desk most = new Desk();
        most.halt();
        CHECK.due("dump(200)", most.dump(200), 0);
        CHECK.due("dump(2)", most.dump(2), 2);
        CHECK.due("dump(200)", most.dump(200), 0);
    }

    private static void nothingAttached() {
        Desk x = new Desk();
        CHECK.missing("word(0)", () -> x.word(0));
        CHECK.missing("word(255)", () -> x.word(255));
        for (int list = 0; list < 6; list++) {
            int l = list;
            CHECK.state("walk(" + l + ")", () -> x.walk(l));
        }
        CHECK.state("broken(0)", () -> x.broken(0));
        CHECK.state("broken(1)", () -> x.broken(1));
        CHECK.state("node(0, 0)", () -> x.node(0, 0));
    }

    private static void objectsAreApart() {
        Desk used = Scenes.walked();
        used.sector(0, true);
        Desk x = new Desk();
        CHECK.memoryIs(x, 0, 0, 0, 0, 0, 0, 0, 0, 0, 1, 0, 0, 0, 0, 0, 0, 256, 0);
        CHECK.due("taskNew", x.taskNew(3), 0);
        CHECK.state("dump(1)", () -> x.dump(1));
        CHECK.due("area(0, 0)", x.area(0, 0), -1);
        CHECK.missing("word(0)", () -> x.word(0));
        CHECK.state("broken(0)", () -> x.broken(0));
        x.halt();
        x.dump(200);
        CHECK.due("area(0, 0)", x.area(0, 0), 50000);
        CHECK.memoryIs(used, 16, 7001, 20, 5, 0);
    }

    private static void flags() {
        Desk x = new Desk();
        int[] map = {1, 0, 0, 0, 0, 0, 0, 256};
        for (int page = 1; page <= 14; page++) {
            int flag = 2 + page % 2;
            x.file(page % 2 == 1, 7);
            map[page / 2] += page % 2 == 0 ? flag : 256 * flag;
            CHECK.memoryIs(x, 8, map);
        }
    }

    private static void flagsAlone() {
        Desk x = new Desk();
        int[] map = {1, 0, 0, 0, 0, 0, 0, 256};
        for (int page = 1; page <= 14; page++) {
            x.timer(1);
            map[page / 2] += page % 2 == 0 ? 1 : 256;
            CHECK.memoryIs(x, 8, map);
            x.timer(2);
            x.timer(3);
            x.timer(4);
            CHECK.memoryIs(x, 8, map);
        }
    }

    private static void pageZero() {
        Desk x = new Desk();
        x.taskNew(1);
        CHECK.memoryIs(x, 0, 16, 0, 0, 0, 0, 0, 0, 0);
        x.timer(1);
        CHECK.memoryIs(x, 0, 16, 20, 0, 0, 0, 0, 0, 0);
        x.waitOn(0, 0);
        CHECK.memoryIs(x, 0, 16, 20, 24, 0, 0, 0, 0, 0);
        x.waitOn(0, 1);
        CHECK.memoryIs(x, 0, 16, 20, 24, 28, 0, 0, 0, 0);
        x.waitOn(0, 2);
        CHECK.memoryIs(x, 0, 16, 20, 24, 28, 32, 0, 0, 0);
        x.waitOn(0, 3);
        CHECK.memoryIs(x, 0, 16, 20, 24, 28, 32, 36, 0, 0);
        x.log(5);
        CHECK.memoryIs(x, 0, 16, 20, 24, 28, 32, 36, 1, 0);
    }

    private static void longestRun() {
        Desk x = new Desk();
        for (int k = 0; k < 250; k++) {
            CHECK.due("taskNew", x.taskNew(k), k);
            CHECK.due("taskEnd", x.taskEnd(0), k);
        }
        CHECK.due("taskNew", x.taskNew(9), 250);
        CHECK.memoryIs(x, 0, 16);
        CHECK.memoryIs(x, 16, 7001, 0, 9, 250, 0);
        x.halt();
        x.dump(200);
        CHECK.due("attach", x.attach(), 102);
        CHECK.due("walk", x.walk(0), 1);
        CHECK.due("node(0, 2), the 512th call", x.node(0, 2), 250);
        CHECK.due("calls left", x.callsLeft(), 0);
    }
}
