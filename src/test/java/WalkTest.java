/** Promises 17 to 19: walking lists, sound and damaged. */
public final class WalkTest {
    private static final Check CHECK = new Check("WalkTest");

    public static void main(String[] args) {
        wrongInputs();
        soundLists();
        lastWalkCounts();
        linksOutside();
        absentPages();
        otherTags();
        loops();
        longestList();
        longestLoop();
        damagedWaiterIsStillANode();
        CHECK.end();
    }

    private static void attachNow(DumpDesk x) {
        x.halt();
        x.dump(200);
        x.attach();
    }

    private static void wrongInputs() {
        DumpDesk x = new DumpDesk();
        CHECK.argument("walk(-1), not attached", () -> x.walk(-1));
        CHECK.argument("walk(6), not attached", () -> x.walk(6));
        CHECK.state("walk(5), not attached", () -> x.walk(5));
        CHECK.argument("broken(-1), not walked", () -> x.broken(-1));
        CHECK.argument("broken(2), not walked", () -> x.broken(2));
        CHECK.state("broken(1), not walked", () -> x.broken(1));
        CHECK.argument("node(0, -1), not walked", () -> x.node(0, -1));
        CHECK.argument("node(0, 3), not walked", () -> x.node(0, 3));
        CHECK.state("node(-1, 2), not walked", () -> x.node(-1, 2));
        x.taskNew(1);
        attachNow(x);
        CHECK.state("broken(0), attached, not walked", () -> x.broken(0));
        CHECK.due("walk(0)", x.walk(0), 1);
        CHECK.argument("broken(2)", () -> x.broken(2));
        CHECK.argument("node(0, 3)", () -> x.node(0, 3));
        CHECK.argument("node(9, 3)", () -> x.node(9, 3));
        CHECK.missing("node(-1, 0)", () -> x.node(-1, 0));
        CHECK.missing("node(1, 0)", () -> x.node(1, 0));
        CHECK.missing("node(MAX, 0)", () -> x.node(Integer.MAX_VALUE, 0));
        CHECK.argument("walk(6)", () -> x.walk(6));
        CHECK.due("a walk that was none changes nothing", x.node(0, 0), 16);
        x.attach();
        CHECK.state("broken(0) since the latest attach", () -> x.broken(0));
        CHECK.state("node(0, 0) since the latest attach", () -> x.node(0, 0));
    }

    private static void sound(DumpDesk x, int list, int... nodes) {
        CHECK.due("walk(" + list + ")", x.walk(list), nodes.length / 3);
        CHECK.due("broken(0)", x.broken(0), 0);
        CHECK.due("broken(1)", x.broken(1), -1);
        for (int k = 0; k < nodes.length; k++) {
            CHECK.due("node(" + k / 3 + ", " + k % 3 + ")", x.node(k / 3, k % 3), nodes[k]);
        }
        CHECK.missing("node behind the end", () -> x.node(nodes.length / 3, 0));
    }

    private static void soundLists() {
        DumpDesk x = new DumpDesk();
        x.taskNew(9);
        x.taskNew(-8);
        x.timer(30);
        x.timer(-30);
        for (int queue = 0; queue < 4; queue++) {
            x.waitOn(queue % 2, queue);
        }
        x.waitOn(0, 3);
        attachNow(x);
        sound(x, 0, 16, 9, 0, 20, -8, 1);
        sound(x, 1, 28, -30, 0, 24, 30, 0);
        sound(x, 2, 32, 16, 0);
        sound(x, 3, 36, 20, 0);
        sound(x, 4, 40, 16, 0);
        sound(x, 5, 44, 20, 0, 48, 16, 0);
        DumpDesk empty = new DumpDesk();
        attachNow(empty);
        for (int list = 0; list < 6; list++) {
            sound(empty, list);
        }
    }

    private static void lastWalkCounts() {
        DumpDesk x = new DumpDesk();
        x.taskNew(1);
        x.taskNew(2);
        x.poke(1, 3);
        attachNow(x);
        x.walk(1);
        CHECK.due("broken(0)", x.broken(0), 1);
        sound(x, 0, 16, 1, 0, 20, 2, 1);
        x.walk(1);
        CHECK.missing("node of the broken list", () -> x.node(0, 0));
    }

    private static void breaks(DumpDesk x, int list, int count, int kind, int address) {
        CHECK.due("walk(" + list + ")", x.walk(list), count);
        CHECK.due("broken(0)", x.broken(0), kind);
        CHECK.due("broken(1)", x.broken(1), address);
    }

    private static void linksOutside() {
        int[] links = {1, 4, 12, 15, 17, 18, 19, 235, 237, 238, 240, 252, 256, -4, -16,
            Integer.MAX_VALUE, Integer.MIN_VALUE};
        for (int link : links) {
            DumpDesk x = new DumpDesk();
            x.taskNew(0);
            x.timer(0);
            x.poke(5, link);
            x.poke(17, link);
            attachNow(x);
            breaks(x, 5, 0, 1, 5);
            breaks(x, 0, 1, 1, 17);
            breaks(x, 1, 1, 0, -1);
        }
        DumpDesk last = new DumpDesk();
        last.poke(15, 0x101);
        last.poke(1, 236);
        last.poke(236, 7002);
        last.poke(238, 4);
        last.poke(239, 5);
        attachNow(last);
        sound(last, 1, 236, 4, 5);
    }

    private static void absentPages() {
        DumpDesk x = new DumpDesk();
        for (int k = 0; k < 9; k++) {
            x.taskNew(k);
        }
        x.poke(9, 2 + 256);
        attachNow(x);
        breaks(x, 0, 4, 2, 29);
        DumpDesk head = new DumpDesk();
        head.poke(3, 236);
        attachNow(head);
        breaks(head, 3, 0, 2, 3);
    }

    private static void otherTags() {
        DumpDesk x = new DumpDesk();
        x.taskNew(0);
        x.timer(0);
        x.waitOn(0, 0);
        x.poke(3, 16);
        x.poke(4, 20);
        x.poke(5, 28);
        x.poke(17, 24);
        x.poke(21, 16);
        x.poke(25, 20);
        attachNow(x);
        breaks(x, 0, 1, 3, 17);
        breaks(x, 1, 1, 3, 21);
        breaks(x, 2, 1, 3, 25);
        breaks(x, 3, 0, 3, 3);
        breaks(x, 4, 0, 3, 4);
        breaks(x, 5, 0, 3, 5);
    }

    private static void loops() {
        DumpDesk x = new DumpDesk();
        x.taskNew(0);
        x.taskNew(1);
        x.taskNew(2);
        x.timer(5);
        x.poke(25, 20);
        x.poke(29, 28);
        attachNow(x);
        breaks(x, 0, 3, 4, 25);
        CHECK.due("node(2, 2)", x.node(2, 2), 2);
        breaks(x, 1, 1, 4, 29);
    }

    private static void longestList() {
        DumpDesk x = new DumpDesk();
        for (int k = 0; k < 56; k++) {
            x.timer(-k);
        }
        attachNow(x);
        breaks(x, 1, 56, 0, -1);
        CHECK.due("first address", x.node(0, 0), 236);
        CHECK.due("last address", x.node(55, 0), 16);
        CHECK.due("last due", x.node(55, 1), 0);
        CHECK.missing("node(56, 0)", () -> x.node(56, 0));
    }

    private static void longestLoop() {
        DumpDesk x = new DumpDesk();
        for (int k = 0; k < 56; k++) {
            x.taskNew(k);
        }
        x.poke(237, 236);
        attachNow(x);
        breaks(x, 0, 56, 4, 237);
    }

    private static void damagedWaiterIsStillANode() {
        DumpDesk x = new DumpDesk();
        x.taskNew(0);
        x.waitOn(0, 0);
        x.poke(22, -999);
        x.poke(23, 888);
        x.poke(3, 20);
        attachNow(x);
        sound(x, 2, 20, -999, 888);
        sound(x, 3, 20, -999, 888);
    }
}
