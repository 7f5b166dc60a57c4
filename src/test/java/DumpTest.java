/** Promises 12 to 14: bad sectors, which pages a dump stores, how it ends, and what the area then has. */
public final class DumpTest {
    private static final Check CHECK = new Check("DumpTest");
    private static final Refusal REFUSED = new Refusal(CHECK);
    private static final int MIN = Integer.MIN_VALUE;
    private static final int MAX = Integer.MAX_VALUE;

    public static void main(String[] args) {
        CHECK.sentence("A page is LEFT OUT of a dump when its flag is FREE or CLEAN", DumpTest::flags);
        CHECK.sentence("A page is LEFT OUT of a dump when all its words are 0", DumpTest::zeroPages);
        CHECK.sentence("all others are STORED (whatever else its flag is)", DumpTest::otherFlags);
        CHECK.sentence("Page 0 is always stored.", DumpTest::pageZero);
        CHECK.sentence("THE AREA has 96 SECTORS of 8 words.", DumpTest::lastSector);
        CHECK.sentence("ERASED at the beginning of a dump (bad ones, too)", DumpTest::erased);
        CHECK.sentence("Some may be BAD: they are passed over.", DumpTest::badSectors);
        CHECK.sentence("A sector is bad from now on (or not any more).", DumpTest::fromNowOn);
        CHECK.sentence("sector: IllegalArgumentException: there is none.", DumpTest::noSector);
        CHECK.sentence("The dump is FULL when a chunk does not fit into the sectors that are left.", DumpTest::full);
        CHECK.sentence("FULL when a chunk does not fit: what is before it stays", DumpTest::fullAtEachChunk);
        CHECK.sentence("With power for n sectors, the write of one more is not done, and the dump ends there: LOST.",
                DumpTest::lost);
        CHECK.sentence("FULL when a chunk does not fit, LOST at the write of one more", DumpTest::fullOrLost);
        CHECK.sentence("with power for so many sectors (0 .. 200)", DumpTest::powers);
        CHECK.sentence("dump: IllegalArgumentException: not so", DumpTest::noPower);
        CHECK.sentence("dump: IllegalStateException: not halted.", DumpTest::notHalted);
        CHECK.sentence("A word of a sector (0 .. 7), as it was written last or erased (of a bad one, too).",
                DumpTest::areaOfBad);
        CHECK.sentence("area: IllegalArgumentException: there is none.", DumpTest::noAreaWord);
        CHECK.end();
    }

    /** Whether page k, with this flag and this in its last word, is stored. */
    private static boolean isStored(int page, int flag, int word) {
        Desk x = new Desk();
        int map = 8 + page / 2;
        int shift = page % 2 * 8;
        x.poke(map, x.memory(map) & ~(255 << shift) | flag << shift);
        x.poke(page * 16 + 15, word);
        x.halt();
        CHECK.due("dump", x.dump(200), 0);
        boolean stored = x.attach() == 102;
        int second = x.area(0, 2) > 12 ? 3 : x.area(0, 2) > 4 ? 2 : 1;
        CHECK.due("page of the second chunk", x.area(second, 1), stored ? page : -1);
        CHECK.same("the walker has it", Check.outcome(() -> x.word(page * 16)).equals("nothing thrown"), stored);
        return stored;
    }

    private static void flags() {
        for (int page = 1; page < 16; page++) {
            String name = "page " + page + " is stored with flag ";
            CHECK.same(name + 0, isStored(page, 0, 5), false);
            CHECK.same(name + 1, isStored(page, 1, 5), true);
            CHECK.same(name + 2, isStored(page, 2, 5), false);
            CHECK.same(name + 3, isStored(page, 3, 5), true);
        }
        Desk x = new Desk();
        x.file(false, 1);
        x.file(true, 2);
        x.halt();
        x.dump(200);
        CHECK.due("attach", x.attach(), 102);
        CHECK.missing("word of the clean page", () -> x.word(16));
        CHECK.due("word of the dirty page", x.word(32), 2);
    }

    private static void zeroPages() {
        for (int flag : new int[] {1, 3, 4, 255}) {
            CHECK.same("a page of zeros with flag " + flag, isStored(6, flag, 0), false);
            CHECK.same("a page of zeros with flag " + flag, isStored(7, flag, 0), false);
        }
        CHECK.same("a page with one word", isStored(6, 1, MIN), true);
        Desk x = new Desk();
        x.taskNew(0);
        x.taskEnd(0);
        x.log(0);
        x.halt();
        x.dump(200);
        CHECK.due("pages whose words are 0 again", x.attach(), 101);
        Desk first = new Desk();
        first.poke(240, 1);
        first.halt();
        first.dump(200);
        CHECK.due("a page with its first word alone", first.attach(), 102);
    }

    private static void otherFlags() {
        for (int flag : new int[] {4, 5, 6, 127, 128, 130, 254, 255}) {
            CHECK.same("page 8 is stored with flag " + flag, isStored(8, flag, 5), true);
            CHECK.same("page 9 is stored with flag " + flag, isStored(9, flag, 5), true);
        }
        Desk x = new Desk();
        x.poke(9, 0x7fff0000);
        x.poke(10, 0xffff0202);
        x.poke(11, 0x01020001);
        x.poke(12, 0x80000100);
        for (int page = 2; page < 10; page++) {
            x.poke(page * 16 + 3, page);
        }
        x.halt();
        x.dump(200);
        CHECK.due("other bits of the map are no flags", x.attach(), 103);
        CHECK.due("word(99)", x.word(99), 6);
        CHECK.due("word(147)", x.word(147), 9);
    }

    private static void pageZero() {
        for (int flag : new int[] {0, 2, 1, 3, 255}) {
            Desk x = new Desk();
            x.poke(8, flag);
            x.halt();
            x.dump(200);
            CHECK.due("attach with page 0's flag " + flag, x.attach(), 101);
            CHECK.due("word(8)", x.word(8), flag);
        }
        Desk zeros = new Desk();
        zeros.poke(8, 0);
        zeros.poke(15, 0);
        zeros.poke(255, 5);
        zeros.halt();
        CHECK.due("dump of zeros", zeros.dump(200), 0);
        CHECK.sectorIs(zeros, 0, Chunk.page(0, 0, -16, 0));
        CHECK.sectorIs(zeros, 1, Chunk.end(1, 1, 15));
        CHECK.due("attach", zeros.attach(), 101);
        CHECK.due("word(15)", zeros.word(15), 0);
    }

    private static Desk withGoodSectors(Desk x, int... good) {
        boolean[] isGood = new boolean[96];
        for (int sector : good) {
            isGood[sector] = true;
        }
        for (int sector = 0; sector < 96; sector++) {
            if (!isGood[sector]) {
                x.sector(sector, true);
            }
        }
        return x;
    }

    private static int[] firstSectors(int count) {
        int[] sectors = new int[count];
        for (int k = 0; k < count; k++) {
            sectors[k] = k;
        }
        return sectors;
    }

    private static Desk newHalted() {
        Desk x = new Desk();
        x.halt();
        return x;
    }

    private static void lastSector() {
        Desk x = withGoodSectors(newHalted(), 0, 94, 95);
        CHECK.due("dump", x.dump(200), 0);
        CHECK.due("area(0, 0)", x.area(0, 0), 50000);
        CHECK.due("area(94, 1)", x.area(94, 1), 1);
        CHECK.sectorIs(x, 95, Chunk.end(1, 1, 15));
        CHECK.due("attach", x.attach(), 101);
    }

    private static void erased() {
        Desk x = Scenes.dumped();
        for (int sector = 1; sector < 15; sector += 2) {
            x.sector(sector, true);
        }
        CHECK.due("area(3, 0) of a bad one", x.area(3, 0), 50001);
        CHECK.due("dump(0)", x.dump(0), 2);
        CHECK.erased(x, 0, 16);
        Desk y = Scenes.dumped();
        CHECK.due("dump(1)", y.dump(1), 2);
        CHECK.due("area(0, 0)", y.area(0, 0), 50000);
        CHECK.erased(y, 1, 16);
        Desk full = Scenes.dumped();
        for (int sector = 0; sector < 95; sector++) {
            full.sector(sector, true);
        }
        CHECK.due("a full dump", full.dump(200), 1);
        CHECK.erased(full, 0, 16);
        CHECK.erased(full, 94, 96);
    }

    private static void badSectors() {
        Desk x = newHalted();
        x.sector(0, true);
        x.sector(2, true);
        x.sector(3, true);
        x.sector(5, true);
        CHECK.due("dump(3)", x.dump(3), 0);
        int[] words = Chunk.joined(Chunk.page(0, 0, -8, 0, 1, 1, -6, 0, 1, 256), Chunk.end(1, 1, 15));
        int[] good = {1, 4, 6};
        for (int k = 0; k < words.length; k++) {
            CHECK.due("area(" + good[k / 8] + ", " + k % 8 + ")", x.area(good[k / 8], k % 8), words[k]);
        }
        CHECK.erased(x, 0, 1);
        CHECK.erased(x, 2, 4);
        CHECK.erased(x, 5, 6);
        CHECK.erased(x, 7, 8);
        CHECK.due("attach", x.attach(), 101);
    }

    private static void fromNowOn() {
        Desk x = new Desk();
        x.sector(0, true);
        x.sector(0, true);
        x.poke(0, 0);
        x.sector(1, true);
        x.halt();
        x.sector(2, true);
        x.sector(95, true);
        x.dump(200);
        CHECK.due("area(0, 0)", x.area(0, 0), -1);
        CHECK.due("area(1, 0)", x.area(1, 0), -1);
        CHECK.due("area(2, 0)", x.area(2, 0), -1);
        CHECK.due("area(3, 0)", x.area(3, 0), 50000);
        x.sector(0, false);
        x.sector(2, false);
        x.sector(7, false);
        CHECK.due("area(0, 0), not dumped yet", x.area(0, 0), -1);
        x.dump(200);
        CHECK.due("area(0, 0)", x.area(0, 0), 50000);
        CHECK.due("area(1, 0)", x.area(1, 0), -1);
        CHECK.due("area(2, 1)", x.area(2, 1), 1);
        CHECK.due("area(3, 0)", x.area(3, 0), 50001);
    }

    private static void noSector() {
        for (int sector : new int[] {-1, 96, 97, MIN, MAX}) {
            REFUSED.argument("sector(" + sector + ", true)", Scenes::busy, x -> x.sector(sector, true));
            REFUSED.argument("sector(" + sector + ", false)", Scenes::walked, x -> x.sector(sector, false));
        }
        Desk x = withGoodSectors(newHalted(), 0, 1, 95);
        CHECK.due("dump", x.dump(200), 0);
        x.sector(95, true);
        CHECK.due("dump without sector 95", x.dump(200), 1);
        x.sector(95, false);
        x.sector(0, true);
        CHECK.due("dump without sector 0", x.dump(200), 1);
    }

    private static void full() {
        CHECK.due("room for all", withGoodSectors(newHalted(), 0, 1, 2).dump(200), 0);
        Desk two = withGoodSectors(newHalted(), 0, 1);
        CHECK.due("no room for the end", two.dump(200), 1);
        CHECK.due("page 0 is there", two.attach(), 1);
        Desk one = withGoodSectors(newHalted(), 0);
        CHECK.due("no room for page 0", one.dump(200), 1);
        CHECK.erased(one, 0, 1);
        CHECK.due("attach", one.attach(), 0);
        CHECK.due("no sectors", withGoodSectors(newHalted()).dump(200), 1);
        Desk apart = withGoodSectors(newHalted(), 3, 50, 95);
        CHECK.due("room for all, apart", apart.dump(3), 0);
        apart.sector(50, true);
        CHECK.due("no room for the end, apart", apart.dump(200), 1);
        CHECK.due("area(95, 1)", apart.area(95, 1), 1);
        apart.sector(50, false);
        CHECK.due("room again", apart.dump(200), 0);
    }

    private static void fullAtEachChunk() {
        for (int good : new int[] {0, 1, 2, 3, 4, 5, 6, 44, 45, 46, 47, 48, 49, 50}) {
            Desk x = withGoodSectors(Scenes.largest(), firstSectors(good));
            CHECK.due("dump into " + good + " sectors", x.dump(200), good < 49 ? 1 : 0);
            int written = good < 49 ? good / 3 * 3 : 49;
            for (int sector = 0; sector < 51; sector++) {
                CHECK.same("sector " + sector + " of " + good + " is erased", x.area(sector, 1) == -1
                        && x.area(sector, 2) == -1, sector >= written);
            }
            CHECK.due("attach", x.attach(), good < 49 ? good / 3 : 116);
        }
    }

    private static void lost() {
        int[] due = Chunk.joined(Chunk.page(0, 0, -8, 0, 1, 1, -6, 0, 1, 256), Chunk.end(1, 1, 15));
        Desk x = newHalted();
        for (int power = 0; power <= 4; power++) {
            CHECK.due("dump(" + power + ")", x.dump(power), power < 3 ? 2 : 0);
            for (int k = 0; k < 32; k++) {
                int want = k < power * 8 && k < 24 ? due[k] : -1;
                CHECK.due("area(" + k / 8 + ", " + k % 8 + ")", x.area(k / 8, k % 8), want);
            }
        }
        Desk bad = newHalted();
        bad.sector(1, true);
        bad.sector(3, true);
        CHECK.due("bad sectors take no power, dump(3)", bad.dump(3), 0);
        CHECK.due("bad sectors take no power, dump(2)", bad.dump(2), 2);
        CHECK.due("area(2, 1)", bad.area(2, 1), 1);
        CHECK.due("area(4, 0)", bad.area(4, 0), -1);
        Desk large = Scenes.largest();
        for (int power : new int[] {1, 2, 3, 4, 24, 46, 47, 48, 49}) {
            CHECK.due("dump(" + power + ")", large.dump(power), power < 49 ? 2 : 0);
            CHECK.same("the last write is done", large.area(power - 1, 2) != -1, true);
            CHECK.due("the next is not", large.area(power, 2), -1);
            CHECK.due("attach", large.attach(), power < 49 ? power / 3 : 116);
        }
    }

    /** Largest dump into 4 sectors: its second chunk does not fit, whatever power is left. */
    private static void fullOrLost() {
        Desk x = withGoodSectors(Scenes.largest(), 0, 1, 2, 3);
        int[] due = {2, 2, 2, 1, 1, 1, 1};
        for (int power = 0; power < due.length; power++) {
            CHECK.due("dump(" + power + ") into 4 sectors", x.dump(power), due[power]);
            CHECK.due("area(3, 0)", x.area(3, 0), -1);
        }
        CHECK.due("dump(0) into no sectors", withGoodSectors(newHalted()).dump(0), 1);
        CHECK.due("dump(0) into sectors enough", newHalted().dump(0), 2);
    }

    private static void powers() {
        Desk x = Scenes.halted();
        CHECK.due("dump(0)", x.dump(0), 2);
        CHECK.due("dump(200)", x.dump(200), 0);
        CHECK.due("dump(199)", x.dump(199), 0);
        CHECK.due("dump(1)", x.dump(1), 2);
        CHECK.due("dump(14)", x.dump(14), 2);
        CHECK.due("dump(15)", x.dump(15), 0);
        CHECK.due("dump(16)", x.dump(16), 0);
    }

    private static void noPower() {
        for (int power : new int[] {-1, 201, 202, MIN, MAX}) {
            REFUSED.argument("dump(" + power + ")", Scenes::halted, x -> x.dump(power));
            REFUSED.argument("dump(" + power + ") after a dump", Scenes::walked, x -> x.dump(power));
            REFUSED.argumentOrState("dump(" + power + ") not halted", Scenes::busy, x -> x.dump(power));
        }
    }

    private static void notHalted() {
        for (int power : new int[] {0, 1, 200}) {
            REFUSED.state("dump(" + power + ") of a new object", Scenes::empty, x -> x.dump(power));
            REFUSED.state("dump(" + power + ") not halted", Scenes::busy, x -> x.dump(power));
            REFUSED.state("dump(" + power + ") poked", Scenes::poked, x -> x.dump(power));
        }
    }

    private static void areaOfBad() {
        Desk x = Scenes.dumped();
        int[] end = Chunk.end(5, 5, 11);
        CHECK.sectorIs(x, 14, end);
        x.sector(14, true);
        x.sector(15, true);
        CHECK.sectorIs(x, 14, end);
        CHECK.erased(x, 15, 16);
        x.attach();
        CHECK.sectorIs(x, 14, end);
        x.dump(200);
        CHECK.erased(x, 14, 16);
        CHECK.sectorIs(x, 16, end);
        CHECK.erased(x, 95, 96);
    }

    private static void noAreaWord() {
        int[][] all = {{-1, 0}, {96, 0}, {MIN, 0}, {MAX, 7}, {0, -1}, {0, 8}, {95, 8}, {95, MIN}, {1, MAX}, {-1, -1},
            {96, 8}, {-1, 8}};
        for (int[] a : all) {
            String call = "area(" + a[0] + ", " + a[1] + ")";
            REFUSED.argument(call, Scenes::empty, x -> x.area(a[0], a[1]));
            REFUSED.argument(call + " behind a dump", Scenes::walked, x -> x.area(a[0], a[1]));
        }
        REFUSED.questionOnly("area(0, 0)", Scenes::walked, x -> x.area(0, 0));
        REFUSED.questionOnly("area(95, 7)", Scenes::walked, x -> x.area(95, 7));
        CHECK.due("area(95, 7)", Scenes.dumped().area(95, 7), -1);
        CHECK.due("area(0, 0)", Scenes.dumped().area(0, 0), 50000);
    }
}
