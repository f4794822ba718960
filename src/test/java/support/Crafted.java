import java.math.BigInteger;

/** Numbers made so that a SEED gives them a HASH, and so the cells and the PRINT, that a test wants. */
final class Crafted {
    private static final long FIRST = -4658895280553007687L;
    private static final long SECOND = -7723592293110705685L;
    private static final BigInteger ROUND = BigInteger.ONE.shiftLeft(64);

    /** The document's MIX in numbers that do not wrap by themselves. */
    static long slowMix(long x) {
        BigInteger a = BigInteger.valueOf(x).mod(ROUND);
        BigInteger y = a.xor(a.shiftRight(30)).multiply(BigInteger.valueOf(FIRST)).mod(ROUND);
        BigInteger z = y.xor(y.shiftRight(27)).multiply(BigInteger.valueOf(SECOND)).mod(ROUND);
        return z.xor(z.shiftRight(31)).longValue();
    }

    static long slowHash(long number, int seed) {
        BigInteger sum = BigInteger.valueOf(number).add(BigInteger.valueOf(slowMix(seed)));
        return slowMix(sum.mod(ROUND).longValue());
    }

    /** The number that has this HASH by this SEED: MIX taken back, step by step. */
    static long ofHash(long hash, int seed) {
        long z = hash ^ hash >>> 31 ^ hash >>> 62;
        long y = z * inverse(SECOND);
        y = y ^ y >>> 27 ^ y >>> 54;
        long x = y * inverse(FIRST);
        x = x ^ x >>> 30 ^ x >>> 60;
        return x - slowMix(seed);
    }

    private static long inverse(long odd) {
        return BigInteger.valueOf(odd).modInverse(ROUND).longValue();
    }

    /** The number with these PARTS; low are the lowest 16 bits of the HASH, which no cell depends on. */
    static long ofParts(int seed, int p0, int p1, int p2, int low) {
        return ofHash((long) p2 << 48 | (long) p1 << 32 | (long) p0 << 16 | low, seed);
    }

    /** The least PART that gives the place c of n. */
    static int part(int c, int n) {
        return (c * 65536 + n - 1) / n;
    }

    /** By SEED 0, free: the number whose THREE are a, b, c. Other lows make twins of it. */
    static long free(int cells, int a, int b, int c, int low) {
        int n = 3 * cells;
        return ofParts(0, part(a, n), part(b, n), part(c, n), low);
    }

    static long free(int cells, int a, int b, int c) {
        return free(cells, a, b, c, 0);
    }

    /** By SEED 0, free: a number that TOUCHES this cell alone. */
    static long single(int cells, int c, int low) {
        return free(cells, c, c, c, low);
    }

    static long single(int cells, int c) {
        return single(cells, c, 0);
    }

    /** By SEED 0, free: the number with these THREE that has this PRINT of 16 bits. */
    static long printed(int cells, int a, int b, int c, int print) {
        return free(cells, a, b, c, print ^ part(b, 3 * cells));
    }

    /** An object with SEED 0, free, and these KEYS, whose VALUES are 0. */
    static TripleSieve row(int cells, long... numbers) {
        TripleSieve x = Sentences.of("cells " + cells + ";prints 16;seed 0;spread free;");
        for (long number : numbers) {
            x.add(number, 0);
        }
        return x;
    }

    private Crafted() {
    }
}
