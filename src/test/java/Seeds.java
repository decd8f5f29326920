import java.math.BigInteger;

/** The seed of drift(), by numbers that never turn over. */
final class Seeds {
    private static final BigInteger TIMES = BigInteger.valueOf(1103515245);
    private static final BigInteger AND = BigInteger.valueOf(12345);
    private static final BigInteger INTS = BigInteger.ONE.shiftLeft(32);

    private Seeds() {
    }

    /** A seed by which just this is got on the first DAY, whatever stands in bit 31 and below bit 16. */
    static int seedFor(int got, int bit31, int below) {
        BigInteger turned = BigInteger.valueOf(((long) bit31 << 31) + ((long) got << 16) + below);
        return turned.subtract(AND).multiply(TIMES.modInverse(INTS)).mod(INTS).intValue();
    }

    /** What is got on the first n DAYS of a seed. */
    static int[] gotBy(int seed, int n) {
        int[] got = new int[n];
        BigInteger turning = BigInteger.valueOf(seed);
        for (int d = 0; d < n; d++) {
            turning = turning.multiply(TIMES).add(AND);
            got[d] = turning.shiftRight(16).mod(BigInteger.valueOf(32768)).intValueExact();
        }
        return got;
    }
}
