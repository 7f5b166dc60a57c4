/** Promises 17 to 19: walking lists, sound and damaged. */
public final class WalkTest {
    private static final Check CHECK = new Check("WalkTest");
    private static final Refusal REFUSED = new Refusal(CHECK);
    private static final int MIN = Integer.MIN_VALUE;
    private static final int MAX = Integer.MAX_VALUE;

    public static void main(String[] args) {
        CHECK.sentence("To WALK a list from its head: a link that is 0 ends it.", WalkTest::soundLists);
        CHECK.sentence("a link that is 0 ends it: an empty list", WalkTest::emptyLists);
        CHECK.sentence("1 it is below 16 or above 236, or no multiple of 4", WalkTest::linksOutside);
        CHECK.sentence("below 16 or above 236: 16 and 236 are not", WalkTest::firstAndLastPlace);
        CHECK.sentence("2 its node's page is absent", WalkTest::absentPages);
        CHECK.sentence("3 the tag is another one than the list's", WalkTest::otherTags);
        CHECK.sentence("4 the node was in the list already", WalkTest::loops);
        CHECK.sentence("4 the node was in the list already: not in another one", WalkTest::sharedNodes);
        CHECK.sentence("What breaks it is at the address of the word that holds the link (page 0 for the head).",
                WalkTest::headAddresses);
        CHECK.sentence("how many nodes it has before its end or what breaks it", WalkTest::longestLists);
        CHECK.sentence("THE WALKER has the pages of these chunks", WalkTest::walksWhatIsAttached);
        CHECK.sentence("walk: IllegalArgumentException: no such list", WalkTest::noSuchList);
        CHECK.sentence("walk: IllegalStateException: nothing is attached, or page 0 is absent.",
                WalkTest::cannotBeWalked);
        CHECK.sentence("Of the list that was walked last", WalkTest::lastWalk);
        CHECK.sentence("what 0 how it is broken (0 when it is not), 1 the address of what breaks it (-1)",
                WalkTest::brokenOrNot);
        CHECK.sentence("broken: IllegalArgumentException: no such what", WalkTest::brokenNoSuchWhat);
        CHECK.sentence("broken: IllegalStateException: none was walked since the latest attach().",
                WalkTest::noneWalked);
        CHECK.sentence("Of node k of that list what 0 its address, 1 and 2 its last two words.", WalkTest::nodeWords);
        CHECK.sentence("node: IllegalArgumentException: as for broken", WalkTest::nodeNoSuchWhat);
        CHECK.sentence("node: NoSuchElementException: there is none.", WalkTest::noSuchNode);
        CHECK.end();
    }

    private static Desk attachNow(Desk x) {
        x.halt();
        x.dump(200);
        x.attach();
        return x;
    }

    private static void sound(Desk x, int list, int... nodes) {
        CHECK.due("walk(" + list + ")", x.walk(list), nodes.length / 3);
        CHECK.due("broken(0)", x.broken(0), 0);
        CHECK.due("broken(1)", x.broken(1), -1);
        for (int k = 0; k < nodes.length; k++) {
            CHECK.due("node(" + k / 3 + ", " + k % 3 + ")", x.node(k / 3, k % 3), nodes[k]);
        }
        CHECK.missing("node behind the end", () -> x.node(nodes.length / 3, 0));
    }

    private static void breaks(Desk x, int list, int count, int kind, int address) {
        CHECK.due("walk(" + list + ")", x.walk(list), count);
        CHECK.due("broken(0)", x.broken(0), kind);
        CHECK.due("broken(1)", x.broken(1), address);
        CHECK.missing("node behind the break", () -> x.node(count, 0));
    }

    private static void soundLists() {
        Desk x = new Desk();
        x.taskNew(9);
        x.taskNew(-8);
        x.timer(30);
        x.timer(-30);
        for (int queue = 0; queue < 4; queue++) {
            x.waitOn(queue % 2, queue);
        }
        x.waitOn(0, 3);
        attachNow(x);
        sound(x, 0, 16, 9, 0, 20, -8, 1);
        sound(x, 1, 28, -30, 0, 24, 30, 0);
        sound(x, 2, 32, 16, 0);
        sound(x, 3, 36, 20, 0);
        sound(x, 4, 40, 16, 0);
        sound(x, 5, 44, 20, 0, 48, 16, 0);
    }

    private static void emptyLists() {
        Desk x = attachNow(new Desk());
        for (int list = 0; list < 6; list++) {
            sound(x, list);
        }
        Desk y = attachNow(Scenes.busy());
        sound(y, 2);
        sound(y, 4);
    }

    private static void linksOutside() {
        int[] links = {1, 2, 3, 4, 8, 12, 13, 14, 15, 17, 18, 19, 21, 22, 23, 235, 237, 238, 239, 240, 244, 248, 252,
            255, 256, 260, 1016, 65552, -1, -4, -16, -236, -240, MAX, MAX - 3, MIN, MIN + 16};
        for (int link : links) {
            Desk x = new Desk();
            x.taskNew(0);
            x.timer(0);
            x.waitOn(0, 0);
            x.waitOn(0, 0);
            x.log(7003);
            x.poke(5, link);
            x.poke(17, link);
            x.poke(29, link);
            attachNow(x);
            breaks(x, 5, 0, 1, 5);
            breaks(x, 0, 1, 1, 17);
            sound(x, 1, 20, 0, 0);
            breaks(x, 2, 2, 1, 29);
        }
    }

    /** Even where page 0 and page 15 are there, and hold what would be nodes. */
    private static void firstAndLastPlace() {
        Desk x = new Desk();
        x.poke(8, 0x101);
        x.poke(15, 0x101);
        x.poke(0, 16);
        x.poke(16, 7001);
        x.poke(18, 4);
        x.poke(19, 5);
        x.poke(1, 236);
        x.poke(236, 7002);
        x.poke(238, 6);
        x.poke(239, 7);
        x.poke(2, 240);
        x.poke(240, 7003);
        x.poke(3, 12);
        x.poke(12, 7003);
        attachNow(x);
        sound(x, 0, 16, 4, 5);
        sound(x, 1, 236, 6, 7);
        breaks(x, 2, 0, 1, 2);
        breaks(x, 3, 0, 1, 3);
    }

    private static void absentPages() {
        Desk clean = new Desk();
        for (int k = 0; k < 9; k++) {
            clean.taskNew(k);
        }
        clean.poke(9, 2 + 256);
        attachNow(clean);
        breaks(clean, 0, 4, 2, 29);
        Desk head = new Desk();
        head.poke(3, 236);
        head.poke(4, 16);
        head.poke(5, 18);
        attachNow(head);
        breaks(head, 3, 0, 2, 3);
        breaks(head, 4, 0, 2, 4);
        breaks(head, 5, 0, 1, 5);
        Desk lost = new Desk();
        for (int k = 0; k < 12; k++) {
            lost.timer(k);
        }
        lost.halt();
        int[] nodes = {0, 0, 4, 4, 8, 8, 12};
        int[] powers = {3, 5, 6, 8, 9, 11, 12};
        int first = firstSectorsOfPageZero(lost);
        for (int k = 0; k < powers.length; k++) {
            lost.dump(powers[k] - 3 + first);
            lost.attach();
            int link = nodes[k] == 0 ? 1 : 16 + 4 * nodes[k] - 3;
            breaks(lost, 1, nodes[k], nodes[k] < 12 ? 2 : 0, nodes[k] < 12 ? link : -1);
        }
    }

    private static int firstSectorsOfPageZero(Desk x) {
        x.dump(200);
        return (x.area(0, 2) + 3 + 1 + 7) / 8;
    }

    private static void otherTags() {
        Desk x = new Desk();
        x.taskNew(0);
        x.timer(0);
        x.waitOn(0, 0);
        x.poke(3, 16);
        x.poke(4, 20);
        x.poke(5, 28);
        x.poke(17, 24);
        x.poke(21, 16);
        x.poke(25, 20);
        attachNow(x);
        breaks(x, 0, 1, 3, 17);
        breaks(x, 1, 1, 3, 21);
        breaks(x, 2, 1, 3, 25);
        breaks(x, 3, 0, 3, 3);
        breaks(x, 4, 0, 3, 4);
        breaks(x, 5, 0, 3, 5);
        for (int tag : new int[] {0, 7000, 7004, -7001, 1, MAX}) {
            Desk y = new Desk();
            y.taskNew(0);
            y.timer(0);
            y.waitOn(0, 3);
            y.poke(16, tag);
            y.poke(20, tag);
            y.poke(24, tag);
            attachNow(y);
            breaks(y, 0, 0, 3, 0);
            breaks(y, 1, 0, 3, 1);
            breaks(y, 5, 0, 3, 5);
        }
        tagsOfEachList();
    }

    private static void tagsOfEachList() {
        for (int tag = 7001; tag <= 7003; tag++) {
            Desk x = new Desk();
            x.poke(8, 0x101);
            x.poke(16, tag);
            for (int list = 0; list < 6; list++) {
                x.poke(list, 16);
            }
            attachNow(x);
            for (int list = 0; list < 6; list++) {
                if (tag == 7001 + Math.min(list, 2)) {
                    sound(x, list, 16, 0, 0);
                } else {
                    breaks(x, list, 0, 3, list);
                }
            }
        }
    }

    private static void loops() {
        Desk x = new Desk();
        x.taskNew(0);
        x.taskNew(1);
        x.taskNew(2);
        x.timer(5);
        x.waitOn(0, 0);
        x.waitOn(0, 0);
        x.poke(25, 20);
        x.poke(29, 28);
        x.poke(37, 32);
        attachNow(x);
        breaks(x, 0, 3, 4, 25);
        CHECK.due("node(2, 2)", x.node(2, 2), 2);
        breaks(x, 1, 1, 4, 29);
        breaks(x, 2, 2, 4, 37);
        Desk y = new Desk();
        y.taskNew(0);
        y.taskNew(1);
        y.taskNew(2);
        y.poke(25, 24);
        attachNow(y);
        breaks(y, 0, 3, 4, 25);
        CHECK.due("a list walked twice has the same break", y.walk(0), 3);
    }

    private static void sharedNodes() {
        Desk x = new Desk();
        x.taskNew(0);
        x.waitOn(0, 0);
        x.waitOn(0, 1);
        x.poke(21, 24);
        x.poke(4, 24);
        attachNow(x);
        sound(x, 2, 20, 16, 0, 24, 16, 0);
        sound(x, 3, 24, 16, 0);
        sound(x, 4, 24, 16, 0);
        sound(x, 2, 20, 16, 0, 24, 16, 0);
    }

    private static void headAddresses() {
        Desk x = new Desk();
        for (int list = 0; list < 6; list++) {
            x.poke(list, -4);
        }
        attachNow(x);
        for (int list = 0; list < 6; list++) {
            breaks(x, list, 0, 1, list);
        }
    }

    private static void longestLists() {
        Desk x = new Desk();
        for (int k = 0; k < 56; k++) {
            x.timer(-k);
        }
        attachNow(x);
        breaks(x, 1, 56, 0, -1);
        CHECK.due("first address", x.node(0, 0), 236);
        CHECK.due("last address", x.node(55, 0), 16);
        CHECK.due("last due", x.node(55, 1), 0);
        int[] links = {236, 16, 8, 240};
        int[] kinds = {4, 4, 1, 1};
        for (int k = 0; k < links.length; k++) {
            Desk y = new Desk();
            for (int task = 0; task < 56; task++) {
                y.taskNew(task);
            }
            y.poke(237, links[k]);
            attachNow(y);
            breaks(y, 0, 56, kinds[k], 237);
            CHECK.due("last address", y.node(55, 0), 236);
        }
    }

    private static void walksWhatIsAttached() {
        Desk x = Scenes.attached();
        x.dump(1);
        x.sector(0, true);
        sound(x, 0, 16, 5, 0, 20, -6, 1, 24, 7, 2);
        CHECK.due("attach", x.attach(), 0);
        CHECK.state("walk(0)", () -> x.walk(0));
        Desk forged = Forge.area(CHECK, Chunk.page(0, 0, 1, 16, -15, 0), Chunk.page(1, 1, 4, 7001, 0, 33, 44, -12, 0));
        CHECK.due("attach of what memory never had", forged.attach(), 2);
        sound(forged, 0, 16, 33, 44);
        sound(forged, 1);
    }

    private static void noSuchList() {
        for (int list : new int[] {-1, 6, 7, MIN, MAX}) {
            REFUSED.argument("walk(" + list + ")", Scenes::attached, x -> x.walk(list));
            REFUSED.argument("walk(" + list + ") behind another", Scenes::walked, x -> x.walk(list));
            REFUSED.argumentOrState("walk(" + list + ") of a new object", Scenes::empty, x -> x.walk(list));
            REFUSED.argumentOrState("walk(" + list + ") without page 0", Scenes::withoutPageZero, x -> x.walk(list));
        }
        CHECK.due("walk(5)", Scenes.attached().walk(5), 1);
    }

    private static void cannotBeWalked() {
        for (int list = 0; list < 6; list++) {
            int l = list;
            REFUSED.state("walk(" + l + ") of a new object", Scenes::empty, x -> x.walk(l));
            REFUSED.state("walk(" + l + "), dumped, not attached", Scenes::dumped, x -> x.walk(l));
            REFUSED.state("walk(" + l + ") without page 0", Scenes::withoutPageZero, x -> x.walk(l));
        }
        Desk other = Forge.area(CHECK, Chunk.page(0, 5, -16, 8), Chunk.end(1, 1, 15));
        CHECK.due("attach of page 5 alone", other.attach(), 101);
        CHECK.state("walk(0)", () -> other.walk(0));
        CHECK.state("broken(0)", () -> other.broken(0));
        Desk first = Forge.area(CHECK, Chunk.page(0, 0, 2, 16, 5, -14, 0));
        CHECK.due("attach of page 0 alone", first.attach(), 1);
        breaks(first, 0, 0, 2, 0);
        breaks(first, 1, 0, 1, 1);
        sound(first, 2);
    }

    private static void lastWalk() {
        Desk x = new Desk();
        x.taskNew(1);
        x.taskNew(2);
        x.poke(1, 3);
        attachNow(x);
        breaks(x, 1, 0, 1, 1);
        sound(x, 0, 16, 1, 0, 20, 2, 1);
        breaks(x, 1, 0, 1, 1);
        CHECK.missing("node(0, 0) of the list before", () -> x.node(0, 0));
        sound(x, 0, 16, 1, 0, 20, 2, 1);
        sound(x, 5);
        CHECK.missing("node(1, 0) of the list before", () -> x.node(1, 0));
    }

    private static void brokenOrNot() {
        Desk x = Scenes.walked();
        CHECK.due("broken(0)", x.broken(0), 0);
        CHECK.due("broken(1)", x.broken(1), -1);
        CHECK.due("broken(1) again", x.broken(1), -1);
        REFUSED.questionOnly("broken(0)", Scenes::walked, z -> z.broken(0));
        REFUSED.questionOnly("broken(1)", Scenes::walked, z -> z.broken(1));
        Desk y = new Desk();
        y.poke(0, 1);
        attachNow(y);
        y.walk(0);
        CHECK.due("broken(0)", y.broken(0), 1);
        CHECK.due("broken(1), which is the address 0", y.broken(1), 0);
    }

    private static void brokenNoSuchWhat() {
        for (int what : new int[] {-1, 2, 3, MIN, MAX}) {
            REFUSED.argument("broken(" + what + ")", Scenes::walked, x -> x.broken(what));
            REFUSED.argumentOrState("broken(" + what + "), none walked", Scenes::attached, x -> x.broken(what));
            REFUSED.argumentOrState("broken(" + what + ") of a new object", Scenes::empty, x -> x.broken(what));
        }
    }

    private static Desk attachedAgain() {
        Desk x = Scenes.walked();
        x.attach();
        return x;
    }

    private static void noneWalked() {
        for (int what = 0; what < 3; what++) {
            int w = what;
            if (what < 2) {
                REFUSED.state("broken(" + w + ") of a new object", Scenes::empty, x -> x.broken(w));
                REFUSED.state("broken(" + w + "), not walked", Scenes::attached, x -> x.broken(w));
                REFUSED.state("broken(" + w + "), attached again", WalkTest::attachedAgain, x -> x.broken(w));
                REFUSED.state("broken(" + w + ") without page 0", Scenes::withoutPageZero, x -> x.broken(w));
            }
            REFUSED.state("node(0, " + w + ") of a new object", Scenes::empty, x -> x.node(0, w));
            REFUSED.state("node(0, " + w + "), not walked", Scenes::attached, x -> x.node(0, w));
            REFUSED.state("node(0, " + w + "), attached again", WalkTest::attachedAgain, x -> x.node(0, w));
        }
        Desk x = Scenes.walked();
        x.dump(0);
        CHECK.due("a dump is no attach", x.broken(1), -1);
        CHECK.due("a dump is no attach", x.node(1, 1), 24);
        x.sector(0, true);
        x.halt();
        CHECK.due("nor is a bad sector or a halt", x.broken(0), 0);
        CHECK.due("nor is a bad sector or a halt", x.node(0, 0), 36);
        Desk refused = Scenes.attached();
        CHECK.argument("walk(6)", () -> refused.walk(6));
        CHECK.state("a walk that was refused is none", () -> refused.broken(0));
        x.attach();
        CHECK.state("an attach of nothing is one", () -> x.broken(0));
    }

    private static void nodeWords() {
        Desk x = new Desk();
        x.taskNew(0);
        x.waitOn(0, 0);
        x.timer(MIN);
        x.poke(22, -999);
        x.poke(23, 888);
        x.poke(27, MAX);
        attachNow(x);
        sound(x, 2, 20, -999, 888);
        sound(x, 1, 24, MIN, MAX);
        sound(x, 0, 16, 0, 0);
        REFUSED.questionOnly("node(0, 0)", Scenes::walked, z -> z.node(0, 0));
        REFUSED.questionOnly("node(1, 2)", Scenes::walked, z -> z.node(1, 2));
    }

    private static void nodeNoSuchWhat() {
        for (int what : new int[] {-1, 3, 4, MIN, MAX}) {
            REFUSED.argument("node(0, " + what + ")", Scenes::walked, x -> x.node(0, what));
            REFUSED.argument("node(1, " + what + ")", Scenes::walked, x -> x.node(1, what));
            REFUSED.argumentOrMissing("node(2, " + what + ")", Scenes::walked, x -> x.node(2, what));
            REFUSED.argumentOrState("node(0, " + what + "), none walked", Scenes::attached, x -> x.node(0, what));
        }
        Desk x = Scenes.walked();
        CHECK.due("node(1, 0)", x.node(1, 0), 40);
        CHECK.due("node(1, 1)", x.node(1, 1), 24);
        CHECK.due("node(1, 2)", x.node(1, 2), 0);
    }

    private static void noSuchNode() {
        for (int k : new int[] {-1, 2, 3, 55, 56, 57, MIN, MAX}) {
            for (int what = 0; what < 3; what++) {
                int w = what;
                REFUSED.missing("node(" + k + ", " + w + ")", Scenes::walked, x -> x.node(k, w));
            }
        }
        Desk x = attachNow(Scenes.busy());
        x.walk(2);
        CHECK.missing("node(0, 0) of an empty list", () -> x.node(0, 0));
    }
}
