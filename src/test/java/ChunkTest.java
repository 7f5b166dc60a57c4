/** Promises 13 and 14: the words that a dump writes for each page, and at its end. */
public final class ChunkTest {
    private static final Check CHECK = new Check("ChunkTest");
    private static final int MIN = Integer.MIN_VALUE;
    private static final int MAX = Integer.MAX_VALUE;
    private static final int[] NEW_PAGE_ZERO = {-8, 0, 1, 1, -6, 0, 1, 256};

    public static void main(String[] args) {
        CHECK.sentence("word 0 is 50000 + its number (0, 1, ..), word 1 the page, "
                + "word 2 how many words of PACKING follow, then these", ChunkTest::busyArea);
        CHECK.sentence("One chunk for each page that is stored, in order", ChunkTest::everyPage);
        CHECK.sentence("then one with page -1 and two words: how many chunks are before it, "
                + "and how many pages are left out", ChunkTest::ends);
        CHECK.sentence("as many as it needs, the last one filled up with zeros before its last word",
                ChunkTest::fillings);
        CHECK.sentence("s becomes 31 s + word (wrapping)", ChunkTest::sums);
        CHECK.sentence("three or more words that are the same: -their number, the word", ChunkTest::runs);
        CHECK.sentence("otherwise their number (up to before the next such run, or the end), and they themselves",
                ChunkTest::others);
        CHECK.sentence("in RUNS, from the first one on, each as long as can be", ChunkTest::longest);
        CHECK.sentence("the words of a page in RUNS: not beyond it", ChunkTest::pagesApart);
        CHECK.end();
    }

    /** The area has these chunks from its first sector on, and one erased sector behind them. */
    private static void areaIs(Desk x, int[]... chunks) {
        int[] words = Chunk.joined(chunks);
        for (int k = 0; k < words.length; k++) {
            CHECK.due("area(" + k / 8 + ", " + k % 8 + ")", x.area(k / 8, k % 8), words[k]);
        }
        CHECK.erased(x, words.length / 8, words.length / 8 + 1);
    }

    private static void busyArea() {
        areaIs(Scenes.dumped(),
                Chunk.page(0, 0, 11, 16, 32, 0, 36, 0, 44, 2, 0, 0x101, 0x301, 2, -4, 0, 1, 256),
                Chunk.page(1, 1, 16, 7001, 20, 5, 0, 7001, 24, -6, 1, 7001, 0, 7, 2, 7002, 0, 40, 0),
                Chunk.page(2, 2, 16, 7002, 28, 30, 0, 7003, 40, 16, 0, 7003, 0, 24, 0, 7003, 0, 16, 0),
                Chunk.page(3, 3, 16, 100, 101, 102, 103, 104, 105, 106, 107, 108, 109, 110, 111, 112, 113, 114, 115),
                Chunk.page(4, 15, 2, 9, 8, -14, 0),
                Chunk.end(5, 5, 11));
    }

    private static void everyPage() {
        Desk x = Scenes.largest();
        CHECK.due("dump", x.dump(200), 0);
        for (int page = 0; page < 16; page++) {
            CHECK.due("number", x.area(page * 3, 0), 50000 + page);
            CHECK.due("page", x.area(page * 3, 1), page);
            CHECK.due("length", x.area(page * 3, 2), 17);
            CHECK.due("count", x.area(page * 3, 3), 16);
            CHECK.due("first word", x.area(page * 3, 4), page * 1000);
            CHECK.due("last word", x.area(page * 3 + 2, 3), page == 0 ? x.memory(15) : page * 1000 + 15);
        }
    }

    private static void ends() {
        Desk least = new Desk();
        least.halt();
        least.dump(200);
        areaIs(least, Chunk.page(0, 0, NEW_PAGE_ZERO), Chunk.end(1, 1, 15));
        Desk most = Scenes.largest();
        most.dump(200);
        CHECK.sectorIs(most, 48, Chunk.end(16, 16, 0));
        CHECK.erased(most, 49, 51);
    }

    /** What a dump makes of page 15 with these words: it is the second chunk, behind a page 0 of two sectors. */
    private static void packs(int[] words, int... packing) {
        Desk x = new Desk();
        for (int k = 0; k < 16; k++) {
            x.poke(240 + k, words[k]);
        }
        x.halt();
        CHECK.due("dump", x.dump(200), 0);
        areaIs(x, Chunk.page(0, 0, NEW_PAGE_ZERO), Chunk.page(1, 15, packing), Chunk.end(2, 2, 14));
    }

    private static int[] words(int... words) {
        return words;
    }

    /** Packings of 2, 4 and 5 words (one sector, one without filling, two), and so on at each step to one more. */
    private static void fillings() {
        CHECK.due("sectors of 2 words", Chunk.page(1, 15, -16, 3).length, 8);
        packs(words(3, 3, 3, 3, 3, 3, 3, 3, 3, 3, 3, 3, 3, 3, 3, 3), -16, 3);
        CHECK.due("sectors of 4 words", Chunk.page(1, 15, -8, 3, -8, 4).length, 8);
        packs(words(3, 3, 3, 3, 3, 3, 3, 3, 4, 4, 4, 4, 4, 4, 4, 4), -8, 3, -8, 4);
        CHECK.due("sectors of 5 words", Chunk.page(1, 15, -14, 3, 2, 4, 5).length, 16);
        packs(words(3, 3, 3, 3, 3, 3, 3, 3, 3, 3, 3, 3, 3, 3, 4, 5), -14, 3, 2, 4, 5);
        packs(words(1, 2, 3, 4, 5, 6, 7, 8, 9, 9, 9, 9, 9, 9, 9, 9), 8, 1, 2, 3, 4, 5, 6, 7, 8, -8, 9);
        packs(words(1, 2, 3, 4, 5, 6, 7, 8, 0, 9, 9, 9, 9, 9, 9, 9), 9, 1, 2, 3, 4, 5, 6, 7, 8, 0, -7, 9);
        packs(words(1, 2, 3, 4, 5, 6, 7, 8, 0, 1, 9, 9, 9, 9, 9, 9), 10, 1, 2, 3, 4, 5, 6, 7, 8, 0, 1, -6, 9);
        packs(words(1, 2, 3, 4, 5, 6, 7, 8, 9, 1, 2, 3, 4, 5, 6, 7),
                16, 1, 2, 3, 4, 5, 6, 7, 8, 9, 1, 2, 3, 4, 5, 6, 7);
    }

    private static void sums() {
        packs(words(MAX, MAX, MAX, MAX, MAX, MAX, MAX, MAX, MIN, MIN, MIN, MIN, MIN, MIN, MIN, MIN), -8, MAX, -8, MIN);
        packs(words(MAX, MIN, MAX, MIN, -1, 1, -1, 1, MAX, MAX, MIN, MIN, -1, -1, MAX, MIN),
                16, MAX, MIN, MAX, MIN, -1, 1, -1, 1, MAX, MAX, MIN, MIN, -1, -1, MAX, MIN);
        Desk x = new Desk();
        x.halt();
        x.dump(200);
        CHECK.due("the sum of the end, told by hand", x.area(2, 7), endSumByHand());
    }

    /** ((((((50001 * 31 - 1) * 31 + 2) * 31 + 1) * 31 + 15) * 31 + 0) * 31 + 0), less the 2^32 that wrap off. */
    private static long endSumByHand() {
        long sum = ((((50001L * 31 - 1) * 31 + 2) * 31 + 1) * 31 + 15) * 31 * 31;
        long rest = sum % (1L << 32);
        return rest >= 1L << 31 ? rest - (1L << 32) : rest;
    }

    private static void runs() {
        packs(words(7, 7, 7, 1, 2, 3, 4, 5, 6, 7, 8, 9, 0, 5, 5, 5),
                -3, 7, 10, 1, 2, 3, 4, 5, 6, 7, 8, 9, 0, -3, 5);
        packs(words(1, 7, 7, 7, 2, 7, 7, 7, 7, 3, 4, 4, 4, 4, 4, 6), 1, 1, -3, 7, 1, 2, -4, 7, 1, 3, -5, 4, 1, 6);
        packs(words(7, 7, 7, 8, 8, 8, 7, 7, 7, 7, 7, 7, 7, 7, 7, 1), -3, 7, -3, 8, -9, 7, 1, 1);
        packs(words(0, 0, 0, -1, -1, -1, -3, -3, -3, 3, 3, 3, 0, 0, 0, 1), -3, 0, -3, -1, -3, -3, -3, 3, -3, 0, 1, 1);
        packs(words(-9, -9, -9, -9, -9, -9, -9, -9, -9, -9, -9, -9, -9, -9, -9, 9), -15, -9, 1, 9);
    }

    private static void others() {
        packs(words(1, 1, 2, 2, 2, 3, 3, 4, 4, 4, 4, 5, 6, 7, 8, 8), 2, 1, 1, -3, 2, 2, 3, 3, -4, 4, 5, 5, 6, 7, 8, 8);
        packs(words(1, 1, 2, 2, 3, 3, 4, 4, 5, 5, 6, 6, 7, 7, 8, 8),
                16, 1, 1, 2, 2, 3, 3, 4, 4, 5, 5, 6, 6, 7, 7, 8, 8);
        packs(words(1, 1, 1, 1, 1, 1, 1, 1, 1, 1, 1, 1, 1, 1, 8, 8), -14, 1, 2, 8, 8);
        packs(words(8, 8, 1, 1, 1, 1, 1, 1, 1, 1, 1, 1, 1, 1, 1, 1), 2, 8, 8, -14, 1);
        packs(words(1, 2, 3, 4, 5, 6, 7, 8, 9, 0, 1, 2, 3, 6, 6, 6),
                13, 1, 2, 3, 4, 5, 6, 7, 8, 9, 0, 1, 2, 3, -3, 6);
        packs(words(1, 2, 3, 4, 5, 6, 7, 8, 9, 0, 1, 2, 3, 3, 6, 6),
                16, 1, 2, 3, 4, 5, 6, 7, 8, 9, 0, 1, 2, 3, 3, 6, 6);
        packs(words(0, 0, 1, 0, 0, 1, 0, 0, 1, 0, 0, 1, 0, 0, 1, 0),
                16, 0, 0, 1, 0, 0, 1, 0, 0, 1, 0, 0, 1, 0, 0, 1, 0);
    }

    private static void longest() {
        packs(words(2, 2, 2, 2, 2, 2, 2, 2, 2, 2, 2, 2, 2, 2, 2, 2), -16, 2);
        packs(words(2, 2, 2, 2, 2, 2, 3, 3, 3, 3, 3, 3, 3, 3, 3, 3), -6, 2, -10, 3);
        packs(words(4, 5, 4, 5, 4, 5, 5, 5, 5, 4, 5, 4, 5, 4, 5, 4),
                5, 4, 5, 4, 5, 4, -4, 5, 7, 4, 5, 4, 5, 4, 5, 4);
    }

    /** The last words of page 13 and the first ones of page 14 are the same, but they are two runs. */
    private static void pagesApart() {
        Desk x = new Desk();
        x.poke(14, 0x300);
        x.poke(15, 0x103);
        for (int address = 222; address < 227; address++) {
            x.poke(address, 6);
        }
        x.halt();
        x.dump(200);
        areaIs(x, Chunk.page(0, 0, -8, 0, 1, 1, -5, 0, 2, 0x300, 0x103), Chunk.page(1, 13, -14, 0, 2, 6, 6),
                Chunk.page(2, 14, -3, 6, -13, 0), Chunk.end(3, 3, 13));
    }
}
