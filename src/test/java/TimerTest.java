/** Promise 6: timers in the order in which they are due. */
public final class TimerTest {
    private static final Check CHECK = new Check("TimerTest");
    private static final Refusal REFUSED = new Refusal(CHECK);
    private static final int MIN = Integer.MIN_VALUE;
    private static final int MAX = Integer.MAX_VALUE;

    public static void main(String[] args) {
        CHECK.sentence("A TIMER comes before the first one that is due later.", TimerTest::inOrder);
        CHECK.sentence("before the first one that is due later: not one due at the same time", TimerTest::sameTime);
        CHECK.sentence("before the first one that is due later: at the edges of an int", TimerTest::edges);
        CHECK.sentence("of a timer when it is due and 0", TimerTest::words);
        CHECK.sentence("timer: IllegalStateException: refused.", TimerTest::refused);
        CHECK.end();
    }

    /** The timers' addresses along the list must be these. */
    private static void listIs(Desk x, int... addresses) {
        int holder = 1;
        for (int address : addresses) {
            CHECK.memoryIs(x, holder, address);
            holder = address + 1;
        }
        CHECK.memoryIs(x, holder, 0);
    }

    private static void inOrder() {
        Desk x = new Desk();
        x.timer(50);
        listIs(x, 16);
        x.timer(20);
        listIs(x, 20, 16);
        x.timer(70);
        listIs(x, 20, 16, 24);
        x.timer(60);
        listIs(x, 20, 16, 28, 24);
        x.timer(51);
        listIs(x, 20, 16, 32, 28, 24);
        x.timer(49);
        listIs(x, 20, 36, 16, 32, 28, 24);
    }

    private static void sameTime() {
        Desk x = new Desk();
        x.timer(5);
        x.timer(5);
        listIs(x, 16, 20);
        x.timer(9);
        x.timer(5);
        listIs(x, 16, 20, 28, 24);
        x.timer(9);
        listIs(x, 16, 20, 28, 24, 32);
        x.timer(4);
        x.timer(4);
        listIs(x, 36, 40, 16, 20, 28, 24, 32);
    }

    private static void edges() {
        Desk x = new Desk();
        x.timer(0);
        x.timer(MAX);
        x.timer(MIN);
        x.timer(-1);
        listIs(x, 24, 28, 16, 20);
        x.timer(MAX);
        x.timer(MIN);
        listIs(x, 24, 36, 28, 16, 20, 32);
        x.timer(MAX - 1);
        x.timer(MIN + 1);
        listIs(x, 24, 36, 44, 28, 16, 40, 20, 32);
    }

    private static void words() {
        Desk x = new Desk();
        x.timer(MIN);
        x.timer(MAX);
        CHECK.memoryIs(x, 16, 7002, 20, MIN, 0, 7002, 0, MAX, 0, 0);
        CHECK.memoryIs(x, 0, 0, 16, 0);
    }

    private static void refused() {
        REFUSED.state("halted timer", Scenes::halted, x -> x.timer(1));
        REFUSED.state("poked timer", Scenes::poked, x -> x.timer(1));
        REFUSED.state("timer full of nodes", Scenes::fullOfNodes, x -> x.timer(1));
        REFUSED.state("timer full of files", Scenes::fullOfFiles, x -> x.timer(1));
    }
}
