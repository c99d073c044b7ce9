import java.math.BigInteger;

/** Numbers drawn from a seed, by whole numbers without a bound: the rest by 2 to the 32nd is taken last. */
final class Draws {
    private static final BigInteger TIMES = BigInteger.valueOf(1103515245);
    private static final BigInteger MORE = BigInteger.valueOf(12345);
    private static final BigInteger BOUND = BigInteger.ONE.shiftLeft(32);
    private static final BigInteger UPPER = BigInteger.ONE.shiftLeft(16);

    private BigInteger seed;

    Draws(int seed) {
        this.seed = BigInteger.valueOf(seed).mod(BOUND);
    }

    int draw() {
        seed = seed.multiply(TIMES).add(MORE).mod(BOUND);
        return seed.divide(UPPER).intValueExact();
    }

    void skip(int numbers) {
        for (int i = 0; i < numbers; i++) {
            draw();
        }
    }

    /** The n-th number drawn from a seed, from 1 on. */
    static int nth(int seed, int n) {
        Draws draws = new Draws(seed);
        draws.skip(n - 1);
        return draws.draw();
    }
}
