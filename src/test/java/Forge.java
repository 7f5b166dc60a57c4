import java.util.Arrays;

/**
 * Areas whose good sectors hold what a test wants, 14 sectors at most. Each wanted sector is made to stand in the
 * middle of a true chunk, by the words of a page; then all other sectors that were written are declared bad.
 */
final class Forge {
    private static final int INVERSE_OF_31 = inverse(31);

    private final Check check;
    private final Desk desk = new Desk();
    private int written = 1;

    private Forge(Check check) {
        this.check = check;
    }

    /** The wanted sectors, and erased ones behind them. */
    static Desk area(Check check, int[]... chunks) {
        return new Forge(check).make(Chunk.joined(chunks), false);
    }

    /** The wanted sectors, and nothing behind them: all others are bad. */
    static Desk areaEndingThere(Check check, int[]... chunks) {
        return new Forge(check).make(Chunk.joined(chunks), true);
    }

    private Desk make(int[] words, boolean restBad) {
        for (int map = 8; map < 16; map++) {
            desk.poke(map, 0x101);
        }
        int[] places = new int[words.length / 8];
        for (int k = 0; k < places.length; k++) {
            places[k] = forgeSector(k, Arrays.copyOfRange(words, k * 8, k * 8 + 8));
        }
        desk.halt();
        check.due("forging dump", desk.dump(200), 0);
        for (int k = 0; k < places.length; k++) {
            check.sectorIs(desk, places[k], Arrays.copyOfRange(words, k * 8, k * 8 + 8));
        }
        for (int sector = 0; sector < (restBad ? 96 : written + 1); sector++) {
            if (Arrays.binarySearch(places, sector) < 0) {
                desk.sector(sector, true);
            }
        }
        return desk;
    }

    /** Which sector it becomes. */
    private int forgeSector(int k, int[] sector) {
        int filled = 7;
        while (filled > 0 && sector[filled - 1] == 0) {
            filled--;
        }
        written += 3;
        if (filled > 4) {
            pokeMiddle(k + 1, sector);
            return written - 2;
        }
        pokeEnd(k + 1, sector, filled);
        return written - 1;
    }

    /** A page without runs: the first sector of its chunk ends with its word 3, so 4 .. 11 are the second. */
    private void pokeMiddle(int page, int[] sector) {
        for (int k = 0; k < 16; k++) {
            desk.poke(page * 16 + k, k >= 4 && k < 12 ? sector[k - 4] : 900000 + k);
        }
    }

    /**
     * Zeros in a row are packed, so they must be the filling of a true chunk, in its third sector: a run comes first
     * that leaves so many words to it, and the page's first word makes the sum the one that is wanted.
     */
    private void pokeEnd(int page, int[] sector, int filled) {
        int run = filled == 4 ? 0 : 6 - filled;
        int[] words = new int[16];
        for (int k = run; k < 16; k++) {
            words[k] = k < 16 - filled ? 900000 + k : sector[k - 16 + filled];
        }
        int[] chunk = new int[23];
        chunk[0] = 50000 + page;
        chunk[1] = page;
        chunk[2] = run == 0 ? 17 : 3 + 16 - run;
        chunk[3] = run == 0 ? 16 : -run;
        chunk[5] = run == 0 ? words[1] : 16 - run;
        System.arraycopy(words, run == 0 ? 2 : run, chunk, 6, run == 0 ? 14 : 16 - run);
        int first = sector[7] - Chunk.sum(chunk, 23);
        for (int k = 5; k < 23; k++) {
            first *= INVERSE_OF_31;
        }
        Arrays.fill(words, 0, Math.max(run, 1), first);
        for (int k = 0; k < 16; k++) {
            desk.poke(page * 16 + k, words[k]);
        }
    }

    private static int inverse(int odd) {
        int inverse = 1;
        for (int k = 0; k < 5; k++) {
            inverse *= 2 - odd * inverse;
        }
        return inverse;
    }
}
