import java.util.Arrays;

/** Promises 15 and 16: what an attach takes from the area, and the words that the walker has. */
public final class AttachTest {
    private static final Check CHECK = new Check("AttachTest");
    private static final Refusal REFUSED = new Refusal(CHECK);
    private static final int MIN = Integer.MIN_VALUE;
    private static final int MAX = Integer.MAX_VALUE;
    private static final int[] FIVE = Chunk.page(0, 5, -16, 8);

    public static void main(String[] args) {
        CHECK.sentence("the area is read from its first sector on", AttachTest::firstSector);
        CHECK.sentence("(bad ones passed over)", AttachTest::badSectors);
        CHECK.sentence("chunks as long as the number is the next one", AttachTest::numbers);
        CHECK.sentence("a stored page above the one before, 0 .. 15", AttachTest::pages);
        CHECK.sentence("a packing of 1 to 32 words", AttachTest::lengths);
        CHECK.sentence("or -1 and two words", AttachTest::endLengths);
        CHECK.sentence("the words are there", AttachTest::cutOff);
        CHECK.sentence("and the sum is right", AttachTest::sums);
        CHECK.sentence("and the packing is one of 16 words", AttachTest::sixteenWords);
        CHECK.sentence("its numbers are not 0", AttachTest::zeroNumbers);
        CHECK.sentence("and it ends with its length", AttachTest::packingEnds);
        CHECK.sentence("It is WHOLE when that with page -1 comes, and tells how many were before", AttachTest::whole);
        CHECK.sentence("otherwise it is a PREFIX of the chunks that were right", AttachTest::prefixes);
        CHECK.sentence("THE WALKER has the pages of these chunks; others are ABSENT.", AttachTest::absentPages);
        CHECK.sentence("how many pages the walker has, 100 more when it is whole", AttachTest::fewestAndMost);
        CHECK.sentence("Attaches: anew each time", AttachTest::again);
        CHECK.sentence("A word as the walker has it.", AttachTest::words);
        CHECK.sentence("word: NoSuchElementException: its page is absent, or nothing was attached", AttachTest::noPage);
        CHECK.sentence("word: IllegalArgumentException: there is no such address (this first).",
                AttachTest::noAddress);
        CHECK.end();
    }

    private static Desk forge(int[]... chunks) {
        return Forge.area(CHECK, chunks);
    }

    private static void attaches(String name, int due, int[]... chunks) {
        CHECK.due("attach of " + name, forge(chunks).attach(), due);
    }

    /** Wrong as the first chunk, nothing is right; behind one that is right, that one stays. */
    private static void endsReading(String name, int[] first, int[] second) {
        CHECK.due("attach of " + name, forge(first).attach(), 0);
        Desk x = forge(FIVE, second, Chunk.end(2, 2, 14));
        CHECK.due("attach of a page and " + name, x.attach(), 1);
        CHECK.due("word(80)", x.word(80), 8);
        CHECK.due("word(95)", x.word(95), 8);
        CHECK.missing("word(96)", () -> x.word(96));
        CHECK.missing("word(79)", () -> x.word(79));
    }

    private static void firstSector() {
        Desk x = Scenes.dumped();
        x.sector(0, true);
        CHECK.due("attach without sector 0", x.attach(), 0);
        x.sector(0, false);
        CHECK.due("attach with it", x.attach(), 105);
        Desk y = Scenes.halted();
        y.sector(0, true);
        y.dump(200);
        CHECK.due("attach", y.attach(), 105);
        y.sector(0, false);
        CHECK.due("attach when the first one is erased", y.attach(), 0);
    }

    /** Its chunks have 2, 3, 3, 3 sectors and 1 for the end. */
    private static Desk threeFiles() {
        Desk x = new Desk();
        x.file(true, 100);
        x.file(true, 200);
        x.file(true, 300);
        x.halt();
        return x;
    }

    private static final int[] BEFORE_SECTOR = {0, 0, 1, 1, 1, 2, 2, 2, 3, 3, 3, 4};

    private static void badSectors() {
        for (int bad = 0; bad < 12; bad++) {
            Desk x = threeFiles();
            x.dump(200);
            x.sector(bad, true);
            CHECK.due("attach, sector " + bad + " bad since", x.attach(), BEFORE_SECTOR[bad]);
            x.sector(bad, false);
            CHECK.due("attach, sector " + bad + " good again", x.attach(), 104);
            x.sector(bad, true);
            x.dump(200);
            CHECK.due("attach, sector " + bad + " bad before", x.attach(), 104);
            x.sector(bad, false);
            CHECK.due("attach, sector " + bad + " good and erased", x.attach(), BEFORE_SECTOR[bad]);
        }
        Desk x = threeFiles();
        x.dump(200);
        for (int sector = 12; sector < 96; sector++) {
            x.sector(sector, true);
        }
        CHECK.due("attach, bad ones behind the end", x.attach(), 104);
    }

    private static void numbers() {
        attaches("number 0", 1, FIVE);
        endsReading("a number too large", Chunk.page(1, 6, -16, 9), Chunk.page(2, 6, -16, 9));
        endsReading("a number too small", Chunk.page(-1, 6, -16, 9), Chunk.page(0, 6, -16, 9));
        endsReading("a number without 50000", Chunk.page(-50000, 6, -16, 9), Chunk.page(-49999, 6, -16, 9));
        attaches("numbers 0, 1, 2", 103, FIVE, Chunk.page(1, 6, -16, 9), Chunk.page(2, 7, -16, 9), Chunk.end(3, 3, 0));
        attaches("an end with a number too large", 0, Chunk.end(1, 0, 16));
        attaches("an end with a number too small", 1, FIVE, Chunk.end(0, 1, 15));
    }

    private static void pages() {
        attaches("page 0", 101, Chunk.page(0, 0, -16, 9), Chunk.end(1, 1, 15));
        attaches("page 15", 101, Chunk.page(0, 15, -16, 9), Chunk.end(1, 1, 15));
        endsReading("page 16", Chunk.page(0, 16, -16, 9), Chunk.page(1, 16, -16, 9));
        endsReading("page -2", Chunk.page(0, -2, -16, 9), Chunk.page(1, -2, -16, 9));
        endsReading("page MAX", Chunk.page(0, MAX, -16, 9), Chunk.page(1, MAX, -16, 9));
        endsReading("page MIN", Chunk.page(0, MIN, -16, 9), Chunk.page(1, MIN, -16, 9));
        attaches("the same page", 1, FIVE, Chunk.page(1, 5, -16, 9), Chunk.end(2, 2, 14));
        attaches("a page below", 1, FIVE, Chunk.page(1, 4, -16, 9), Chunk.end(2, 2, 14));
        attaches("page 0 behind others", 1, FIVE, Chunk.page(1, 0, -16, 9), Chunk.end(2, 2, 14));
        attaches("the next page", 102, FIVE, Chunk.page(1, 6, -16, 9), Chunk.end(2, 2, 14));
        attaches("the last page", 102, FIVE, Chunk.page(1, 15, -16, 9), Chunk.end(2, 2, 14));
        attaches("a page below the one before", 2, FIVE, Chunk.page(1, 8, -16, 9), Chunk.page(2, 7, -16, 9));
        Desk x = forge(FIVE, Chunk.page(1, 5, -16, 9));
        x.attach();
        CHECK.due("the page of the first chunk stays", x.word(80), 8);
    }

    /** Sixteen runs of one word each, by turns of both kinds: the longest packing that there can be. */
    private static int[] singles() {
        int[] packing = new int[32];
        for (int k = 0; k < 16; k++) {
            packing[2 * k] = k % 2 == 0 ? -1 : 1;
            packing[2 * k + 1] = 40 + k;
        }
        return packing;
    }

    private static void lengths() {
        Desk longest = forge(Chunk.page(0, 5, singles()), Chunk.end(1, 1, 15));
        CHECK.due("attach of a packing of 32 words", longest.attach(), 101);
        for (int k = 0; k < 16; k++) {
            CHECK.due("word(" + (80 + k) + ")", longest.word(80 + k), 40 + k);
        }
        int[] tooLong = Arrays.copyOf(singles(), 36);
        Arrays.fill(tooLong, 32, 36, 1);
        tooLong[33] = 2;
        tooLong[35] = 3;
        endsReading("a packing of 36 words", Chunk.page(0, 6, tooLong), Chunk.page(1, 6, tooLong));
        endsReading("no words", Chunk.framed(50000, 6, 0, -16, 9, 1), Chunk.framed(50001, 6, 0, -16, 9, 1));
        endsReading("-1 words", Chunk.framed(50000, 6, -1, -16, 9, 1), Chunk.framed(50001, 6, -1, -16, 9, 1));
        endsReading("one word", Chunk.framed(50000, 6, 1, -16, 9, 1), Chunk.framed(50001, 6, 1, -16, 9, 1));
        endsReading("MAX words", Chunk.framed(50000, 6, MAX, -16, 9), Chunk.framed(50001, 6, MAX, -16, 9));
        endsReading("MIN words", Chunk.framed(50000, 6, MIN, -16, 9), Chunk.framed(50001, 6, MIN, -16, 9));
        attaches("two words", 101, FIVE, Chunk.end(1, 1, 15));
    }

    private static void endLengths() {
        attaches("an end of two words", 100, Chunk.end(0, 0, 16));
        attaches("an end of one word", 0, Chunk.framed(50000, -1, 1, 0, 16, 1));
        attaches("an end of three words", 0, Chunk.framed(50000, -1, 3, 0, 16, 1));
        attaches("an end of no words", 0, Chunk.framed(50000, -1, 0, 0, 16, 1));
        attaches("an end of 32 words", 0, Chunk.framed(50000, -1, 32, 0, 16, 1));
        attaches("a page and an end of three words", 1, FIVE, Chunk.framed(50001, -1, 3, 1, 15, 1));
        attaches("a packing in the end", 0, Chunk.page(0, -1, -8, 5, -8, 6));
    }

    /** A packing of 18 words, in three sectors. */
    private static final int[] COUNTING = {15, 1, 2, 3, 4, 5, 6, 7, 8, 9, 10, 11, 12, 13, 14, 15, -1, 16};

    private static void cutOff() {
        int[] whole = Chunk.page(0, 5, COUNTING);
        CHECK.due("attach of all", Forge.areaEndingThere(CHECK, whole).attach(), 1);
        for (int words = 8; words < whole.length; words += 8) {
            int[] cut = Arrays.copyOf(whole, words);
            CHECK.due("attach of a part, none behind", Forge.areaEndingThere(CHECK, cut).attach(), 0);
            CHECK.due("attach of a part, erased ones behind", forge(cut).attach(), 0);
        }
        Desk x = threeFiles();
        x.dump(200);
        for (int sector = 10; sector < 96; sector++) {
            x.sector(sector, true);
        }
        CHECK.due("attach, the last chunk cut off", x.attach(), 3);
        for (int sector = 0; sector < 10; sector++) {
            x.sector(sector, true);
        }
        CHECK.due("attach, no sector left", x.attach(), 0);
        staleWords();
    }

    /** What an earlier attach read must not stand in for sectors that are not there any more. */
    private static void staleWords() {
        Desk x = Forge.areaEndingThere(CHECK, Chunk.page(0, 5, COUNTING));
        CHECK.due("attach", x.attach(), 1);
        x.sector(8, true);
        CHECK.due("attach without the last sector", x.attach(), 0);
    }

    private static int[] changed(int[] chunk, int word, int by) {
        int[] other = chunk.clone();
        other[word] += by;
        return other;
    }

    private static void sums() {
        int[] first = Chunk.page(0, 6, -8, 9, -8, 7);
        int[] second = Chunk.page(1, 6, -8, 9, -8, 7);
        endsReading("a sum too large", changed(first, 7, 1), changed(second, 7, 1));
        endsReading("a sum too small", changed(first, 7, -1), changed(second, 7, -1));
        endsReading("another page", changed(first, 1, 1), changed(second, 1, 1));
        endsReading("another word", changed(first, 4, 1), changed(second, 4, 1));
        endsReading("another last word", changed(first, 6, -1), changed(second, 6, -1));
        attaches("an end with a sum too large", 0, changed(Chunk.end(0, 0, 16), 7, 1));
        attaches("an end with another left out", 0, changed(Chunk.end(0, 0, 16), 4, 1));
        int[] wide = Chunk.page(0, 5, COUNTING);
        for (int word : new int[] {3, 8, 15, 16, 20, 23}) {
            attaches("three sectors, word " + word + " another", 0, changed(wide, word, 256));
        }
        attaches("a sum that wraps", 101, Chunk.page(0, 5, -8, MAX, -8, MIN), Chunk.end(1, 1, MAX));
    }

    private static void sixteenWords() {
        attaches("16 words", 1, Chunk.page(0, 6, -15, 9, 1, 7));
        attaches("runs of one and two words", 1, Chunk.page(0, 6, -1, 9, -2, 7, -13, 5));
        endsReading("15 words", Chunk.page(0, 6, -15, 9), Chunk.page(1, 6, -15, 9));
        endsReading("17 words", Chunk.page(0, 6, -17, 9), Chunk.page(1, 6, -17, 9));
        endsReading("14 and 1", Chunk.page(0, 6, -14, 9, 1, 7), Chunk.page(1, 6, -14, 9, 1, 7));
        endsReading("16 and 1", Chunk.page(0, 6, -16, 9, 1, 7), Chunk.page(1, 6, -16, 9, 1, 7));
        endsReading("1 and 16", Chunk.page(0, 6, 1, 7, -16, 9), Chunk.page(1, 6, 1, 7, -16, 9));
        endsReading("MIN", Chunk.page(0, 6, MIN, 9), Chunk.page(1, 6, MIN, 9));
        endsReading("MIN and MIN and -16", Chunk.page(0, 6, MIN, 9, MIN, 8, -16, 7, 1, 2, 3, 4),
                Chunk.page(1, 6, MIN, 9, MIN, 8, -16, 7, 1, 2, 3, 4));
        endsReading("MAX", Chunk.page(0, 6, MAX, 9), Chunk.page(1, 6, MAX, 9));
        Desk x = forge(Chunk.page(0, 2, -1, 8, -2, 9, -4, 7, -6, 4, 3, 1, 2, 3), Chunk.end(1, 1, 15));
        CHECK.due("attach", x.attach(), 101);
        int[] due = {8, 9, 9, 7, 7, 7, 7, 4, 4, 4, 4, 4, 4, 1, 2, 3};
        for (int k = 0; k < 16; k++) {
            CHECK.due("word(" + (32 + k) + ")", x.word(32 + k), due[k]);
        }
    }

    private static void zeroNumbers() {
        endsReading("a number 0 first", Chunk.page(0, 6, 0, -8, 9, -8, 7, 3, 2, 1, 4, 5),
                Chunk.page(1, 6, 0, -8, 9, -8, 7, 3, 2, 1, 4, 5));
        endsReading("a number 0 between", Chunk.page(0, 6, -8, 9, 0, -8, 7), Chunk.page(1, 6, -8, 9, 0, -8, 7));
        endsReading("a number 0 at the end", Chunk.page(0, 6, -8, 9, -8, 7, 0), Chunk.page(1, 6, -8, 9, -8, 7, 0));
        endsReading("a number 0 and a word", Chunk.page(0, 6, -16, 9, 0, 7), Chunk.page(1, 6, -16, 9, 0, 7));
    }

    private static void packingEnds() {
        int[] shortRun = {50000, 6, 3, -15, 9, -1, 7};
        endsReading("a run without its word", Chunk.framed(shortRun), Chunk.framed(50001, 6, 3, -15, 9, -1, 7));
        endsReading("a word too few", Chunk.framed(50000, 6, 4, -14, 9, 2, 7, 5, 8, 9, 10, 11, 12, 13, 14),
                Chunk.framed(50001, 6, 4, -14, 9, 2, 7, 5, 8, 9, 10, 11, 12, 13, 14));
        attaches("words enough", 1, Chunk.page(0, 6, -14, 9, 2, 7, 5));
        endsReading("a word too many", Chunk.page(0, 6, -14, 9, 2, 7, 5, 1), Chunk.page(1, 6, -14, 9, 2, 7, 5, 1));
        endsReading("16 words, the length 17 short by one",
                Chunk.framed(50000, 6, 16, 16, 1, 2, 3, 4, 5, 6, 7, 8, 9, 10, 11, 12, 13, 14, 15, 16, 17, 18),
                Chunk.framed(50001, 6, 16, 16, 1, 2, 3, 4, 5, 6, 7, 8, 9, 10, 11, 12, 13, 14, 15, 16, 17, 18));
    }

    private static void whole() {
        attaches("an end alone", 100, Chunk.end(0, 0, 16));
        attaches("an end alone that tells 1", 0, Chunk.end(0, 1, 15));
        attaches("an end alone that tells -1", 0, Chunk.end(0, -1, 15));
        attaches("a page and an end that tells 1", 101, FIVE, Chunk.end(1, 1, 15));
        attaches("a page and an end that tells 0", 1, FIVE, Chunk.end(1, 0, 15));
        attaches("a page and an end that tells 2", 1, FIVE, Chunk.end(1, 2, 15));
        attaches("an end that tells the pages", 1, FIVE, Chunk.end(1, 16, 15));
        attaches("a page behind the end", 100, Chunk.end(0, 0, 16), Chunk.page(1, 5, -16, 8));
        attaches("a page behind the end of one", 101, FIVE, Chunk.end(1, 1, 15), Chunk.page(2, 6, -16, 9));
        attaches("a page without an end", 1, FIVE);
        Desk x = forge(Chunk.end(0, 0, 16), Chunk.page(1, 5, -16, 8));
        x.attach();
        CHECK.missing("word(80) behind the end", () -> x.word(80));
    }

    private static void prefixes() {
        Desk x = threeFiles();
        for (int power = 0; power <= 12; power++) {
            x.dump(power);
            int due = power < 12 ? BEFORE_SECTOR[power] : 4;
            CHECK.due("attach after dump(" + power + ")", x.attach(), power < 12 ? due : 104);
            for (int page = 0; page < 5; page++) {
                int address = page * 16 + 15;
                if (page < due) {
                    CHECK.due("word(" + address + ")", x.word(address), x.memory(address));
                } else {
                    CHECK.missing("word(" + address + ")", () -> x.word(address));
                }
            }
        }
    }

    private static void absentPages() {
        Desk x = Scenes.attached();
        for (int page = 0; page < 16; page++) {
            boolean absent = page > 3 && page < 15;
            for (int address : new int[] {page * 16, page * 16 + 15}) {
                if (absent) {
                    CHECK.missing("word(" + address + ")", () -> x.word(address));
                } else {
                    CHECK.due("word(" + address + ")", x.word(address), x.memory(address));
                }
            }
        }
    }

    private static void fewestAndMost() {
        Desk none = new Desk();
        CHECK.due("attach, not halted", none.attach(), 0);
        none.halt();
        CHECK.due("attach, not dumped", none.attach(), 0);
        none.dump(0);
        CHECK.due("attach, no power", none.attach(), 0);
        none.dump(2);
        CHECK.due("attach, page 0", none.attach(), 1);
        none.dump(3);
        CHECK.due("attach, page 0 and the end", none.attach(), 101);
        for (int sector = 0; sector < 96; sector++) {
            none.sector(sector, true);
        }
        CHECK.due("attach, all bad", none.attach(), 0);
        Desk all = Scenes.largest();
        all.dump(48);
        CHECK.due("attach, all pages", all.attach(), 16);
        all.dump(49);
        CHECK.due("attach, all pages and the end", all.attach(), 116);
        for (int page = 0; page < 16; page++) {
            for (int k = 0; k < 16; k += 5) {
                CHECK.due("word", all.word(page * 16 + k), all.memory(page * 16 + k));
            }
        }
    }

    private static void again() {
        Desk x = threeFiles();
        x.dump(200);
        x.attach();
        CHECK.due("the same again", x.attach(), 104);
        x.dump(5);
        x.sector(0, true);
        CHECK.due("word as it was attached", x.word(63), 315);
        CHECK.due("walk as it was attached", x.walk(0), 0);
        x.sector(0, false);
        CHECK.due("attach of a prefix", x.attach(), 2);
        CHECK.due("word of page 1", x.word(31), 115);
        CHECK.missing("word of page 2, there before", () -> x.word(47));
        x.dump(1);
        CHECK.due("attach of nothing", x.attach(), 0);
        CHECK.missing("word of page 0, there before", () -> x.word(0));
        CHECK.state("walk without page 0", () -> x.walk(0));
        x.dump(200);
        CHECK.due("attach of all again", x.attach(), 104);
        CHECK.due("word of page 3", x.word(48), 300);
    }

    private static void words() {
        Desk x = new Desk();
        x.poke(0, MIN);
        x.poke(15, 0x100);
        x.poke(240, MAX);
        x.poke(255, -1);
        x.halt();
        x.dump(200);
        x.attach();
        CHECK.due("word(0)", x.word(0), MIN);
        CHECK.due("word(15)", x.word(15), 0x100);
        CHECK.due("word(240)", x.word(240), MAX);
        CHECK.due("word(241)", x.word(241), 0);
        CHECK.due("word(255)", x.word(255), -1);
        REFUSED.questionOnly("word(0)", Scenes::walked, z -> z.word(0));
        REFUSED.questionOnly("word(255)", Scenes::walked, z -> z.word(255));
    }

    private static void noPage() {
        for (int address : new int[] {0, 15, 16, 255}) {
            REFUSED.missing("word(" + address + ") of a new object", Scenes::empty, x -> x.word(address));
            REFUSED.missing("word(" + address + "), dumped, not attached", Scenes::dumped, x -> x.word(address));
            REFUSED.missing("word(" + address + ") without page 0", Scenes::withoutPageZero, x -> x.word(address));
        }
        for (int address : new int[] {64, 79, 80, 239}) {
            REFUSED.missing("word(" + address + ") of an absent page", Scenes::walked, x -> x.word(address));
        }
        Desk x = Scenes.attached();
        CHECK.due("word(63)", x.word(63), 115);
        CHECK.due("word(240)", x.word(240), 9);
    }

    private static void noAddress() {
        for (int address : new int[] {-1, 256, 257, MIN, MAX}) {
            REFUSED.argument("word(" + address + ") of a new object", Scenes::empty, x -> x.word(address));
            REFUSED.argument("word(" + address + ") attached", Scenes::walked, x -> x.word(address));
            REFUSED.argument("word(" + address + ") without page 0", Scenes::withoutPageZero, x -> x.word(address));
        }
    }
}
