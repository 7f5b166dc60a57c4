/** Promises 7 and 8: file pages and the log. */
public final class FileLogTest {
    private static final Check CHECK = new Check("FileLogTest");
    private static final Refusal REFUSED = new Refusal(CHECK);
    private static final int MIN = Integer.MIN_VALUE;
    private static final int MAX = Integer.MAX_VALUE;

    public static void main(String[] args) {
        CHECK.sentence("the lowest FREE page of 1 .. 14 becomes DIRTY (or CLEAN)", FileLogTest::files);
        CHECK.sentence("its word k becomes seed + k", FileLogTest::seeds);
        CHECK.sentence("file: IllegalStateException: refused.", FileLogTest::fileRefused);
        CHECK.sentence("To LOG: word 240 + (words logged modulo 16) becomes the word", FileLogTest::wrapsAround);
        CHECK.sentence("one more is logged", FileLogTest::counts);
        CHECK.sentence("log: IllegalStateException: refused.", FileLogTest::logRefused);
        CHECK.end();
    }

    private static void files() {
        Desk x = new Desk();
        CHECK.due("dirty file", x.file(true, 1), 1);
        CHECK.memoryIs(x, 8, 0x301, 0);
        CHECK.due("clean file", x.file(false, 1), 2);
        CHECK.memoryIs(x, 8, 0x301, 2);
        x.taskNew(1);
        CHECK.due("dirty file", x.file(true, 1), 4);
        CHECK.memoryIs(x, 8, 0x301, 0x102, 3);
    }

    private static void seeds() {
        int[] seeds = {0, 100, -8, MIN, MAX, MAX - 14, MAX - 15};
        Desk x = new Desk();
        for (int page = 1; page <= seeds.length; page++) {
            x.file(page % 2 == 0, seeds[page - 1]);
            for (int k = 0; k < 16; k++) {
                CHECK.memoryIs(x, page * 16 + k, (int) ((long) seeds[page - 1] + k));
            }
        }
        CHECK.memoryIs(x, 5 * 16, MAX, MIN, MIN + 1);
        CHECK.memoryIs(x, 6 * 16 + 14, MAX, MIN);
        CHECK.memoryIs(x, 7 * 16 + 15, MAX, 0);
    }

    private static void fileRefused() {
        REFUSED.state("halted file", Scenes::halted, x -> x.file(true, 1));
        REFUSED.state("poked file", Scenes::poked, x -> x.file(false, 1));
        REFUSED.state("file full of nodes", Scenes::fullOfNodes, x -> x.file(true, 1));
        REFUSED.state("dirty file full of files", Scenes::fullOfFiles, x -> x.file(true, 1));
        REFUSED.state("clean file full of files", Scenes::fullOfFiles, x -> x.file(false, 1));
    }

    private static void wrapsAround() {
        Desk x = new Desk();
        for (int k = 0; k < 15; k++) {
            x.log(100 + k);
        }
        CHECK.memoryIs(x, 254, 114, 0);
        x.log(-1);
        CHECK.memoryIs(x, 254, 114, -1);
        CHECK.memoryIs(x, 240, 100, 101);
        x.log(MIN);
        CHECK.memoryIs(x, 240, MIN, 101);
        for (int k = 17; k < 32; k++) {
            x.log(200 + k);
        }
        CHECK.memoryIs(x, 240, MIN, 217);
        CHECK.memoryIs(x, 255, 231);
        x.log(MAX);
        CHECK.memoryIs(x, 240, MAX, 217);
        CHECK.memoryIs(x, 239, 0);
    }

    private static void counts() {
        Desk x = new Desk();
        for (int k = 0; k < 257; k++) {
            x.log(0);
        }
        CHECK.memoryIs(x, 6, 257, 0);
        x.log(5);
        CHECK.memoryIs(x, 240, 0, 5, 0);
        CHECK.memoryIs(x, 6, 258, 0);
    }

    private static void logRefused() {
        REFUSED.state("halted log", Scenes::halted, x -> x.log(1));
        REFUSED.state("poked log", Scenes::poked, x -> x.log(1));
    }
}
