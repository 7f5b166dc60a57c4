/** Promises 9 to 11: poke, memory and halt. */
public final class PokeHaltTest {
    private static final Check CHECK = new Check("PokeHaltTest");
    private static final Refusal REFUSED = new Refusal(CHECK);
    private static final int MIN = Integer.MIN_VALUE;
    private static final int MAX = Integer.MAX_VALUE;
    private static final int[] NO_ADDRESSES = {-1, 256, 257, MIN, MAX};

    public static void main(String[] args) {
        CHECK.sentence("poke: Writes a word of memory, wherever.", PokeHaltTest::everyWord);
        CHECK.sentence("after a poke the kernel's calls are refused, too", PokeHaltTest::refusedAfterPoke);
        CHECK.sentence("While nothing was poked: a poke that is refused is none", PokeHaltTest::refusedPoke);
        CHECK.sentence("poke: IllegalArgumentException: there is none", PokeHaltTest::pokeNoWord);
        CHECK.sentence("poke: IllegalStateException: halted.", PokeHaltTest::pokeHalted);
        CHECK.sentence("memory: IllegalArgumentException: there is none.", PokeHaltTest::memoryNoWord);
        CHECK.sentence("halt: Halts; again and again, too.", PokeHaltTest::again);
        CHECK.sentence("HALTED, memory stays as it is.", PokeHaltTest::memoryStays);
        CHECK.end();
    }

    private static void everyWord() {
        Desk x = new Desk();
        for (int address = 0; address < 256; address++) {
            x.poke(address, address * 0x1010101 + 5);
        }
        for (int address = 0; address < 256; address++) {
            CHECK.memoryIs(x, address, address * 0x1010101 + 5);
        }
        Desk y = new Desk();
        y.poke(0, MIN);
        y.poke(255, MAX);
        y.poke(0, MAX);
        CHECK.memoryIs(y, 0, MAX, 0);
        CHECK.memoryIs(y, 254, 0, MAX);
    }

    private static void refusesAll(Desk x) {
        CHECK.state("taskNew", () -> x.taskNew(0));
        CHECK.state("taskEnd", () -> x.taskEnd(0));
        CHECK.state("waitOn", () -> x.waitOn(0, 0));
        CHECK.state("wake", () -> x.wake(1));
        CHECK.state("timer", () -> x.timer(0));
        CHECK.state("file", () -> x.file(true, 0));
        CHECK.state("log", () -> x.log(0));
    }

    /** Wherever it was, and whatever was there. */
    private static void refusedAfterPoke() {
        for (int address : new int[] {0, 7, 16, 79, 112, 239, 240, 255}) {
            Desk x = Scenes.busy();
            x.poke(address, x.memory(address));
            refusesAll(x);
            Desk y = Scenes.busy();
            y.poke(address, 1);
            refusesAll(y);
            y.poke(address, 3);
            CHECK.memoryIs(y, address, 3);
            refusesAll(y);
        }
    }

    private static void refusedPoke() {
        Desk x = new Desk();
        for (int address : NO_ADDRESSES) {
            CHECK.argument("poke(" + address + ")", () -> x.poke(address, 1));
        }
        CHECK.due("taskNew", x.taskNew(0), 0);
        x.log(1);
        CHECK.memoryIs(x, 6, 1);
    }

    private static void pokeNoWord() {
        for (int address : NO_ADDRESSES) {
            REFUSED.argument("poke(" + address + ")", Scenes::busy, x -> x.poke(address, 1));
            REFUSED.argument("poked poke(" + address + ")", Scenes::poked, x -> x.poke(address, 1));
            REFUSED.argumentOrState("halted poke(" + address + ")", Scenes::halted, x -> x.poke(address, 1));
        }
    }

    private static void pokeHalted() {
        for (int address : new int[] {0, 16, 255}) {
            REFUSED.state("halted poke(" + address + ")", Scenes::halted, x -> x.poke(address, 1));
            REFUSED.state("attached poke(" + address + ")", Scenes::attached, x -> x.poke(address, 1));
        }
        Desk x = Scenes.poked();
        x.halt();
        CHECK.state("poke behind poke and halt", () -> x.poke(0, 1));
        CHECK.memoryIs(x, 0, 16);
    }

    private static void memoryNoWord() {
        for (int address : NO_ADDRESSES) {
            REFUSED.argument("memory(" + address + ")", Scenes::busy, x -> x.memory(address));
            REFUSED.argument("halted memory(" + address + ")", Scenes::halted, x -> x.memory(address));
        }
        REFUSED.questionOnly("memory(0)", Scenes::busy, x -> x.memory(0));
        REFUSED.questionOnly("memory(255)", Scenes::walked, x -> x.memory(255));
        Desk x = new Desk();
        x.poke(0, 4);
        x.poke(255, 5);
        CHECK.memoryIs(x, 0, 4);
        CHECK.memoryIs(x, 255, 5);
    }

    private static void again() {
        Desk x = Scenes.busy();
        for (int k = 0; k < 3; k++) {
            x.halt();
            refusesAll(x);
            CHECK.state("poke", () -> x.poke(0, 1));
            CHECK.due("dump", x.dump(200), 0);
        }
        x.attach();
        x.walk(0);
        x.halt();
        CHECK.due("area", x.area(0, 0), 50000);
        CHECK.due("node", x.node(0, 0), 16);
        REFUSED.questionOnly("halt() once more", Scenes::halted, z -> z.halt());
        REFUSED.questionOnly("halt() behind a walk", Scenes::walked, z -> z.halt());
        Desk y = Scenes.poked();
        y.halt();
        refusesAll(y);
        CHECK.due("dump", y.dump(200), 0);
    }

    private static void memoryStays() {
        Desk before = Scenes.busy();
        Desk x = Scenes.halted();
        refusesAll(x);
        x.sector(2, true);
        x.dump(200);
        x.attach();
        x.walk(0);
        x.dump(1);
        x.halt();
        for (int address = 0; address < 256; address++) {
            CHECK.memoryIs(x, address, before.memory(address));
        }
        for (int from = 0; from < 256; from += 128) {
            Desk y = new Desk();
            for (int address = from; address < from + 128; address++) {
                y.poke(address, 7 * address + 1);
            }
            y.halt();
            y.dump(200);
            for (int address = from; address < from + 128; address++) {
                CHECK.memoryIs(y, address, 7 * address + 1);
            }
        }
    }
}
