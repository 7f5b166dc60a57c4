/** Promises 11 to 14: halt, bad sectors, what a dump writes, and how it ends. */
public final class DumpTest {
    private static final Check CHECK = new Check("DumpTest");

    public static void main(String[] args) {
        wrongInputs();
        emptyDump();
        runsAtTheirEdges();
        longestPacking();
        pagesLeftOut();
        pokedFlags();
        badSectors();
        badSectorsAreErasedToo();
        everyPower();
        full();
        fullBeforeLost();
        CHECK.end();
    }

    private static int sum(int... words) {
        int s = 0;
        for (int word : words) {
            s = 31 * s + word;
        }
        return s;
    }

    private static void wrongInputs() {
        DumpDesk x = new DumpDesk();
        CHECK.argument("dump(-1) not halted", () -> x.dump(-1));
        CHECK.argument("dump(201) not halted", () -> x.dump(201));
        CHECK.state("dump(0) not halted", () -> x.dump(0));
        CHECK.state("dump(200) not halted", () -> x.dump(200));
        CHECK.argument("sector(-1)", () -> x.sector(-1, true));
        CHECK.argument("sector(96)", () -> x.sector(96, false));
        CHECK.argument("area(-1, 0)", () -> x.area(-1, 0));
        CHECK.argument("area(96, 0)", () -> x.area(96, 0));
        CHECK.argument("area(0, -1)", () -> x.area(0, -1));
        CHECK.argument("area(0, 8)", () -> x.area(0, 8));
        x.halt();
        CHECK.due("dump(200)", x.dump(200), 0);
        CHECK.argument("dump(-1)", () -> x.dump(-1));
        CHECK.argument("dump(201)", () -> x.dump(201));
        CHECK.due("a dump that was none erases nothing", x.area(0, 0), 50000);
    }

    private static void emptyDump() {
        DumpDesk x = new DumpDesk();
        x.halt();
        CHECK.due("dump", x.dump(200), 0);
        CHECK.sectorIs(x, 0, 50000, 0, 8, -8, 0, 1, 1, -6);
        int sum = sum(50000, 0, 8, -8, 0, 1, 1, -6, 0, 1, 256, 0, 0, 0, 0);
        CHECK.sectorIs(x, 1, 0, 1, 256, 0, 0, 0, 0, sum);
        CHECK.sectorIs(x, 2, 50001, -1, 2, 1, 15, 0, 0, sum(50001, -1, 2, 1, 15, 0, 0));
        CHECK.sectorIs(x, 3, -1);
    }

    private static void pokePage(DumpDesk x, int page, int... words) {
        for (int k = 0; k < words.length; k++) {
            x.poke(page * 16 + k, words[k]);
        }
    }

    /** The packing of page 15, which is the second chunk behind the empty page 0 of two sectors. */
    private static void packingIs(DumpDesk x, int... packing) {
        x.halt();
        x.dump(200);
        CHECK.due("page", x.area(2, 1), 15);
        CHECK.due("length", x.area(2, 2), packing.length);
        for (int k = 0; k < packing.length; k++) {
            CHECK.due("packing " + k, x.area(2 + (3 + k) / 8, (3 + k) % 8), packing[k]);
        }
    }

    private static void runsAtTheirEdges() {
        DumpDesk two = new DumpDesk();
        pokePage(two, 15, 1, 1, 2, 2, 2, 3, 3, 4, 4, 4, 4, 5, 6, 7, 8, 8);
        packingIs(two, 2, 1, 1, -3, 2, 2, 3, 3, -4, 4, 5, 5, 6, 7, 8, 8);
        DumpDesk one = new DumpDesk();
        pokePage(one, 15, -9, -9, -9, -9, -9, -9, -9, -9, -9, -9, -9, -9, -9, -9, -9, -9);
        packingIs(one, -16, -9);
        CHECK.due("one sector is enough", one.area(3, 0), 50002);
        DumpDesk ends = new DumpDesk();
        pokePage(ends, 15, 7, 7, 7, 1, 2, 3, 4, 5, 6, 7, 8, 9, 0, 5, 5, 5);
        packingIs(ends, -3, 7, 10, 1, 2, 3, 4, 5, 6, 7, 8, 9, 0, -3, 5);
        DumpDesk beside = new DumpDesk();
        pokePage(beside, 15, 7, 7, 7, 8, 8, 8, 7, 7, 7, 7, 7, 7, 7, 7, 7, 1);
        packingIs(beside, -3, 7, -3, 8, -9, 7, 1, 1);
    }

    private static void longestPacking() {
        DumpDesk x = new DumpDesk();
        for (int k = 0; k < 16; k++) {
            x.log(k + 3);
        }
        packingIs(x, 16, 3, 4, 5, 6, 7, 8, 9, 10, 11, 12, 13, 14, 15, 16, 17, 18);
        CHECK.sectorIs(x, 4, 15, 16, 17, 18, 0, 0, 0, sum(50001, 15, 17, 16, 3, 4, 5, 6, 7, 8, 9, 10, 11, 12, 13,
                14, 15, 16, 17, 18, 0, 0, 0));
        CHECK.due("end", x.area(5, 0), 50002);
    }

    private static void pagesLeftOut() {
        DumpDesk x = new DumpDesk();
        x.file(false, 1);
        x.file(true, 2);
        x.taskNew(0);
        x.taskEnd(0);
        x.halt();
        CHECK.due("dump", x.dump(200), 0);
        CHECK.due("first page", x.area(0, 1), 0);
        int second = x.area(0, 2) > 12 ? 3 : 2;
        CHECK.due("dirty page", x.area(second, 1), 2);
        CHECK.due("end page", x.area(second + 3, 1), -1);
        CHECK.due("chunks", x.area(second + 3, 3), 2);
        CHECK.due("left out", x.area(second + 3, 4), 14);
    }

    private static void pokedFlags() {
        DumpDesk x = new DumpDesk();
        x.poke(8, 0);
        x.poke(15, 0);
        x.poke(9, 0x7fff0100 | 255);
        x.poke(10, 0x7fff0200 | 4);
        x.poke(11, 3);
        x.poke(96, -1);
        x.poke(240, 5);
        for (int page = 1; page < 6; page++) {
            x.poke(page * 16 + 15, page);
        }
        x.halt();
        CHECK.due("dump", x.dump(200), 0);
        CHECK.due("attach", x.attach(), 105);
        CHECK.due("page 0 is always stored", x.word(9), 0x7fff01ff);
        CHECK.missing("page 1 is free", () -> x.word(31));
        CHECK.due("page 2 has flag 255", x.word(47), 2);
        CHECK.due("page 3 has flag 1", x.word(63), 3);
        CHECK.due("page 4 has flag 4", x.word(79), 4);
        CHECK.missing("page 5 is clean", () -> x.word(95));
        CHECK.due("page 6 has one word", x.word(96), -1);
        CHECK.missing("page 15 is free", () -> x.word(240));
    }

    private static void badSectors() {
        DumpDesk x = new DumpDesk();
        x.sector(0, true);
        x.sector(2, true);
        x.sector(3, true);
        x.halt();
        CHECK.due("dump", x.dump(3), 0);
        CHECK.sectorIs(x, 0, -1);
        CHECK.due("first sector", x.area(1, 0), 50000);
        CHECK.sectorIs(x, 2, -1);
        CHECK.due("second sector", x.area(4, 1), 1);
        CHECK.due("end", x.area(5, 1), -1);
        x.sector(0, false);
        x.sector(2, false);
        x.sector(3, false);
        x.dump(200);
        CHECK.due("good again", x.area(0, 0), 50000);
        CHECK.due("good again", x.area(2, 0), 50001);
        CHECK.sectorIs(x, 4, -1);
    }

    private static void badSectorsAreErasedToo() {
        DumpDesk x = new DumpDesk();
        x.halt();
        x.dump(200);
        x.sector(1, true);
        CHECK.due("a bad one keeps its words", x.area(1, 1), 1);
        CHECK.due("lost", x.dump(0), 2);
        for (int sector = 0; sector < 96; sector++) {
            CHECK.sectorIs(x, sector, -1);
        }
    }

    private static void everyPower() {
        DumpDesk whole = filled();
        CHECK.due("dump", whole.dump(200), 0);
        int needed = 0;
        while (whole.area(needed, 1) != -1 || whole.area(needed, 0) < 50000) {
            needed++;
        }
        needed++;
        DumpDesk x = filled();
        for (int power = 0; power <= needed; power++) {
            CHECK.due("dump(" + power + ")", x.dump(power), power < needed ? 2 : 0);
            for (int sector = 0; sector < 96; sector++) {
                for (int k = 0; k < 8; k++) {
                    int want = sector < power ? whole.area(sector, k) : -1;
                    CHECK.due("area after dump(" + power + ")", x.area(sector, k), want);
                }
            }
        }
    }

    private static DumpDesk filled() {
        DumpDesk x = new DumpDesk();
        x.taskNew(5);
        x.timer(-5);
        x.waitOn(0, 1);
        x.file(true, 40);
        x.log(8);
        x.halt();
        return x;
    }

    private static DumpDesk withGoodSectors(int good) {
        DumpDesk x = new DumpDesk();
        x.halt();
        for (int sector = good; sector < 96; sector++) {
            x.sector(sector, true);
        }
        return x;
    }

    private static void full() {
        CHECK.due("room for all", withGoodSectors(3).dump(3), 0);
        DumpDesk two = withGoodSectors(2);
        CHECK.due("no room for the end", two.dump(200), 1);
        CHECK.due("page 0 is there", two.attach(), 1);
        DumpDesk one = withGoodSectors(1);
        CHECK.due("no room for page 0", one.dump(200), 1);
        CHECK.sectorIs(one, 0, -1);
        CHECK.due("no sectors", withGoodSectors(0).dump(200), 1);
        DumpDesk last = withGoodSectors(1);
        last.sector(94, false);
        last.sector(95, false);
        CHECK.due("up to the last sector", last.dump(200), 0);
        CHECK.due("end", last.area(95, 0), 50001);
    }

    private static void fullBeforeLost() {
        CHECK.due("no power, no room", withGoodSectors(0).dump(0), 1);
        DumpDesk two = withGoodSectors(2);
        CHECK.due("power goes within page 0", two.dump(1), 2);
        CHECK.due("no power and no room behind page 0", two.dump(2), 1);
    }
}
