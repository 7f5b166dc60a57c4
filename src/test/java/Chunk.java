import java.math.BigInteger;
import java.util.Arrays;

/** Chunks as the document describes them, each as the words of its sectors. */
final class Chunk {
    private Chunk() {
    }

    /** The sum in numbers that do not wrap, cut to an int at the end. */
    static int sum(int[] words, int count) {
        BigInteger sum = BigInteger.ZERO;
        for (int k = 0; k < count; k++) {
            sum = sum.multiply(BigInteger.valueOf(31)).add(BigInteger.valueOf(words[k]));
        }
        return sum.intValue();
    }

    /** These words, zeros up to the last word of the last sector, and the sum. */
    static int[] framed(int... words) {
        int[] sectors = Arrays.copyOf(words, (words.length + 1 + 7) / 8 * 8);
        sectors[sectors.length - 1] = sum(sectors, sectors.length - 1);
        return sectors;
    }

    static int[] page(int number, int page, int... packing) {
        int[] words = new int[3 + packing.length];
        words[0] = 50000 + number;
        words[1] = page;
        words[2] = packing.length;
        System.arraycopy(packing, 0, words, 3, packing.length);
        return framed(words);
    }

    static int[] end(int number, int before, int leftOut) {
        return framed(50000 + number, -1, 2, before, leftOut);
    }

    static int[] joined(int[]... chunks) {
        int[] words = {};
        for (int[] chunk : chunks) {
            words = Arrays.copyOf(words, words.length + chunk.length);
            System.arraycopy(chunk, 0, words, words.length - chunk.length, chunk.length);
        }
        return words;
    }
}
