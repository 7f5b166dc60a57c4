import java.util.Arrays;

/** Promises 15 and 16: what an attach takes from the area, and the words that the walker has. */
public final class AttachTest {
    private static final Check CHECK = new Check("AttachTest");

    public static void main(String[] args) {
        wordEdges();
        nothingWritten();
        wholeAndPrefix();
        keepsWhatItRead();
        sectorsGoneBad();
        erasedSectorBetween();
        forgedChunks();
        lastSectorGone();
        allPages();
        CHECK.end();
    }

    private static void wordEdges() {
        DumpDesk x = new DumpDesk();
        CHECK.argument("word(-1), not attached", () -> x.word(-1));
        CHECK.argument("word(256), not attached", () -> x.word(256));
        CHECK.missing("word(255), not attached", () -> x.word(255));
        x.log(0);
        x.log(6);
        x.halt();
        x.dump(200);
        CHECK.missing("word(0), dumped but not attached", () -> x.word(0));
        CHECK.due("attach", x.attach(), 102);
        CHECK.due("word(0)", x.word(0), 0);
        CHECK.due("word(6)", x.word(6), 2);
        CHECK.missing("word(16)", () -> x.word(16));
        CHECK.missing("word(239)", () -> x.word(239));
        CHECK.due("word(241)", x.word(241), 6);
        CHECK.due("word(255)", x.word(255), 0);
        CHECK.argument("word(256)", () -> x.word(256));
    }

    private static void nothingWritten() {
        DumpDesk x = new DumpDesk();
        CHECK.due("attach, not halted", x.attach(), 0);
        CHECK.missing("word(0)", () -> x.word(0));
        CHECK.state("walk(0)", () -> x.walk(0));
        for (int sector = 0; sector < 96; sector++) {
            x.sector(sector, true);
        }
        CHECK.due("attach, all bad", x.attach(), 0);
    }

    /** Page 0 takes 2 sectors, the others (of 17 words of packing) 3 each, and the end 1. */
    private static DumpDesk threeFiles() {
        DumpDesk x = new DumpDesk();
        x.file(true, 100);
        x.file(true, 200);
        x.file(true, 300);
        x.halt();
        return x;
    }

    private static void wholeAndPrefix() {
        DumpDesk x = threeFiles();
        int[] due = {0, 0, 1, 1, 1, 2, 2, 2, 3, 3, 3, 4, 104};
        for (int power = 0; power < due.length; power++) {
            x.dump(power);
            CHECK.due("attach after dump(" + power + ")", x.attach(), due[power]);
            for (int page = 0; page < 16; page++) {
                int address = page * 16 + 15;
                if (page < due[power] % 100) {
                    CHECK.due("word(" + address + ")", x.word(address), x.memory(address));
                } else {
                    CHECK.missing("word(" + address + ")", () -> x.word(address));
                }
            }
        }
    }

    private static void keepsWhatItRead() {
        DumpDesk x = threeFiles();
        x.dump(200);
        x.attach();
        x.dump(0);
        x.sector(0, true);
        CHECK.due("word as it was attached", x.word(31), 115);
        CHECK.due("walk as it was attached", x.walk(0), 0);
        CHECK.due("attach again", x.attach(), 0);
        CHECK.missing("word of nothing", () -> x.word(31));
        CHECK.state("walk of nothing", () -> x.walk(0));
    }

    private static void sectorsGoneBad() {
        int[] due = {0, 0, 1, 1, 1, 2, 2, 2, 3, 3, 3, 4, 104};
        for (int bad = 0; bad < due.length; bad++) {
            DumpDesk x = threeFiles();
            x.dump(200);
            x.sector(bad, true);
            CHECK.due("attach without sector " + bad, x.attach(), due[bad]);
            x.sector(bad, false);
            CHECK.due("attach with sector " + bad, x.attach(), 104);
        }
    }

    private static void erasedSectorBetween() {
        DumpDesk x = threeFiles();
        x.sector(5, true);
        x.dump(200);
        CHECK.due("attach", x.attach(), 104);
        x.sector(5, false);
        CHECK.due("attach, an erased one between", x.attach(), 2);
    }

    private static int[] chunk(int... words) {
        int[] sectors = new int[(words.length + 8) / 8 * 8];
        int sum = 0;
        for (int k = 0; k < sectors.length - 1; k++) {
            sectors[k] = k < words.length ? words[k] : 0;
            sum = 31 * sum + sectors[k];
        }
        sectors[sectors.length - 1] = sum;
        return sectors;
    }

    /**
     * An area whose good sectors are the forged ones, 14 at most. Forged words are poked into a page of which no
     * three words that follow each other are the same; its chunk then has them as they are in its second sector.
     */
    private static DumpDesk forge(int[]... chunks) {
        int[] words = joined(chunks);
        DumpDesk x = new DumpDesk();
        for (int k = 8; k < 16; k++) {
            x.poke(k, 0x101);
        }
        for (int from = 0; from < words.length; from += 8) {
            pokeForgedPage(x, 1 + from / 8, words, from);
        }
        x.halt();
        CHECK.due("forging dump", x.dump(200), 0);
        keepForgedSectors(x, words);
        return x;
    }

    private static int attachForged(int[]... chunks) {
        return forge(chunks).attach();
    }

    private static int[] joined(int[]... chunks) {
        int[] words = {};
        for (int[] chunk : chunks) {
            words = Arrays.copyOf(words, words.length + chunk.length);
            System.arraycopy(chunk, 0, words, words.length - chunk.length, chunk.length);
        }
        return words;
    }

    /** The chunk's first sector has its head, the number 16 and words 0 .. 3 of the page, so 4 .. 11 come next. */
    private static void pokeForgedPage(DumpDesk x, int page, int[] words, int from) {
        for (int k = 0; k < 16; k++) {
            x.poke(page * 16 + k, k >= 4 && k < 12 ? words[from + k - 4] : 900000 + k);
        }
    }

    private static void keepForgedSectors(DumpDesk x, int[] words) {
        int from = 0;
        for (int sector = 0; sector < 96; sector++) {
            boolean forged = from < words.length && sector > 0
                    && x.area(sector - 1, 0) == 50001 + from / 8 && x.area(sector - 1, 1) == 1 + from / 8;
            x.sector(sector, !forged);
            if (forged) {
                CHECK.sectorIs(x, sector, Arrays.copyOfRange(words, from, from + 8));
                from += 8;
            }
        }
        CHECK.due("forged words", from, words.length);
    }

    private static final int[] COUNTING = {15, 1, 2, 3, 4, 5, 6, 7, 8, 9, 10, 11, 12, 13, 14, 15, -1, 16};

    private static int[] pageChunk(int number, int page, int... packing) {
        int[] words = new int[3 + packing.length];
        words[0] = 50000 + number;
        words[1] = page;
        words[2] = packing.length;
        System.arraycopy(packing, 0, words, 3, packing.length);
        return chunk(words);
    }

    private static int[] endChunk(int number, int before) {
        return chunk(50000 + number, -1, 2, before, 77);
    }

    private static void forgedChunks() {
        int[] wrongSum = endChunk(0, 0);
        wrongSum[7]++;
        int[] wrongFill = endChunk(0, 0);
        wrongFill[5] = 1;
        CHECK.due("an end alone", attachForged(endChunk(0, 0)), 100);
        CHECK.due("an end that tells too many", attachForged(endChunk(0, 1)), 0);
        CHECK.due("an end with a wrong sum", attachForged(wrongSum), 0);
        CHECK.due("an end with a wrong filling", attachForged(wrongFill), 0);
        CHECK.due("an end with a wrong number", attachForged(endChunk(1, 0)), 0);
        CHECK.due("a page with a wrong number", attachForged(pageChunk(1, 5, -16, 8)), 0);
        CHECK.due("a page with a number again", attachForged(pageChunk(0, 5, -16, 8), pageChunk(0, 6, -16, 8)), 1);
        CHECK.due("an end with a packing of 3", attachForged(chunk(50000, -1, 3, 0, 1, 5)), 0);
        CHECK.due("an end with a packing of 1", attachForged(chunk(50000, -1, 1, 0, 1, 2)), 0);
        CHECK.due("one page and its end", attachForged(pageChunk(0, 5, -16, 8), endChunk(1, 1)), 101);
        CHECK.due("nothing behind the end", attachForged(endChunk(0, 0), pageChunk(1, 5, -16, 8)), 100);
        CHECK.due("page 15", attachForged(pageChunk(0, 15, -16, 8)), 1);
        CHECK.due("page 16", attachForged(pageChunk(0, 16, -16, 8)), 0);
        CHECK.due("page -2", attachForged(pageChunk(0, -2, -16, 8)), 0);
        CHECK.due("the same page", attachForged(pageChunk(0, 5, -16, 8), pageChunk(1, 5, -16, 9)), 1);
        CHECK.due("a page below", attachForged(pageChunk(0, 5, -16, 8), pageChunk(1, 4, -16, 9)), 1);
        CHECK.due("a page above", attachForged(pageChunk(0, 5, -16, 8), pageChunk(1, 7, -16, 9)), 2);
        forgedPackings();
        forgedLengths();
    }

    private static void forgedPackings() {
        CHECK.due("short runs", attachForged(pageChunk(0, 2, -1, 8, -15, 9)), 1);
        CHECK.due("two words by themselves", attachForged(pageChunk(0, 2, -2, 8, -14, 9)), 1);
        CHECK.due("15 words", attachForged(pageChunk(0, 2, -15, 8)), 0);
        CHECK.due("17 words", attachForged(pageChunk(0, 2, -17, 8)), 0);
        CHECK.due("16 and 1 words", attachForged(pageChunk(0, 2, -16, 8, 1, 9)), 0);
        CHECK.due("a number 0", attachForged(pageChunk(0, 2, 0, -16, 8)), 0);
        CHECK.due("a number 0 at the end", attachForged(pageChunk(0, 2, -16, 8, 0)), 0);
        CHECK.due("a run without its word", attachForged(chunk(50000, 2, 1, -16, 8, 5, 6)), 0);
        CHECK.due("a last run without its word", attachForged(pageChunk(0, 2, 1, 5, -15)), 0);
        CHECK.due("fewer words than the number", attachForged(pageChunk(0, 2, -14, 8, 2, 9)), 0);
        CHECK.due("the least number", attachForged(pageChunk(0, 2, Integer.MIN_VALUE, 8)), 0);
        CHECK.due("the largest number", attachForged(pageChunk(0, 2, Integer.MAX_VALUE, 8)), 0);
        DumpDesk x = forge(pageChunk(0, 2, -1, 8, -2, 9, -4, 7, -6, 4, 3, 1, 2, 3), endChunk(1, 1));
        CHECK.due("a page and its end", x.attach(), 101);
        int[] due = {8, 9, 9, 7, 7, 7, 7, 4, 4, 4, 4, 4, 4, 1, 2, 3};
        for (int k = 0; k < 16; k++) {
            CHECK.due("word(" + (32 + k) + ")", x.word(32 + k), due[k]);
        }
        CHECK.missing("word(0) of a forged area", () -> x.word(0));
        CHECK.state("walk(0) without page 0", () -> x.walk(0));
        CHECK.state("broken(0) without page 0", () -> x.broken(0));
    }

    private static void forgedLengths() {
        CHECK.due("counting", attachForged(pageChunk(0, 2, COUNTING), endChunk(1, 1)), 101);
        CHECK.due("length 0", attachForged(chunk(50000, 2, 0, 4, 5, 6)), 0);
        CHECK.due("length -1", attachForged(chunk(50000, 2, -1, 4, 5, 6)), 0);
        CHECK.due("length 28", attachForged(pageChunk(0, 2, singles(14, 3)), endChunk(1, 1)), 101);
        CHECK.due("length 32", attachForged(longChunk(32, singles(16, 1)), endChunk(1, 1)), 101);
        CHECK.due("length 33", attachForged(longChunk(33, singles(16, 1)), endChunk(1, 1)), 0);
        int[] cut = Arrays.copyOf(pageChunk(0, 2, COUNTING), 16);
        CHECK.due("a chunk cut off", attachForged(cut), 0);
    }

    /** So many runs, the last of them so long and the others of one word, by turns of both kinds. */
    private static int[] singles(int runs, int last) {
        int[] packing = new int[2 * runs];
        for (int k = 0; k < runs; k++) {
            packing[2 * k] = k == runs - 1 ? -last : k % 2 == 0 ? 1 : -1;
            packing[2 * k + 1] = 40 + k;
        }
        return packing;
    }

    /** Its filling is not zeros, for three of these cannot be forged: only the sum tells whether it is right. */
    private static int[] longChunk(int length, int[] packing) {
        int[] words = new int[39];
        words[0] = 50000;
        words[1] = 2;
        words[2] = length;
        for (int k = 3; k < words.length; k++) {
            words[k] = k - 3 < packing.length ? packing[k - 3] : k;
        }
        return chunk(words);
    }

    /** What an earlier attach read must not stand in for sectors that are not there any more. */
    private static void lastSectorGone() {
        DumpDesk x = forge(pageChunk(0, 2, COUNTING));
        CHECK.due("attach", x.attach(), 1);
        int last = 95;
        while (x.area(last, 0) != COUNTING[13] || x.area(last, 1) != COUNTING[14]) {
            last--;
        }
        x.sector(last, true);
        CHECK.due("attach without the last sector", x.attach(), 0);
    }

    private static void allPages() {
        DumpDesk x = new DumpDesk();
        for (int page = 1; page < 15; page++) {
            x.file(true, 1000 * page);
        }
        for (int k = 0; k < 16; k++) {
            x.log(k * k);
        }
        x.halt();
        CHECK.due("dump", x.dump(200), 0);
        CHECK.due("attach", x.attach(), 116);
        for (int address = 0; address < 256; address++) {
            CHECK.due("word(" + address + ")", x.word(address), x.memory(address));
        }
    }
}
