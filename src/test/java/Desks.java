import java.math.BigInteger;

/** Objects whose answers can be worked out by hand, and the generator's numbers. */
final class Desks {
    /** What the generator gives from the number 1 on, before it is taken modulo P. */
    static final int[] DRAWS = {16838, 5758, 10113, 17515, 31051, 5627, 23010, 7419, 16212, 4086};

    /** Indexes that no object has anything at. */
    static final int[] FAR = {Integer.MIN_VALUE, Integer.MIN_VALUE + 1, -1000, -1, 1000, Integer.MAX_VALUE};

    private static final long NUMBERS = 1L << 31;

    private Desks() {
    }

    /** 1 by 1, modulo 2, A and b being 1: an attempt is SOLVED if the draw is odd, else WRONG. */
    static KrylovDesk coin() {
        KrylovDesk x = new KrylovDesk(2, 1, 1);
        x.entry(0, 0, 1);
        x.side(0, 1);
        return x;
    }

    /** 1 by 1, modulo 2, A being 0 and b being 1: an attempt is CONSTANT if the draw is odd, else WRONG. */
    static KrylovDesk blankCoin() {
        KrylovDesk x = new KrylovDesk(2, 1, 1);
        x.side(0, 1);
        return x;
    }

    /** x0 + x1 = 3, 2 x1 = 4, modulo 46337: the solution is 1, 2, the polynomial (x - 1) (x - 2). */
    static KrylovDesk pair() {
        KrylovDesk x = new KrylovDesk(46337, 2, 10);
        x.entry(0, 0, 1);
        x.entry(0, 1, 1);
        x.entry(1, 1, 2);
        x.side(0, 3);
        x.side(1, 4);
        return x;
    }

    /**
     * A takes each place to the next one and the last place to what is given; b is 1 at place 0. So the first
     * n numbers of the row are u itself, and each one after them is the sum of last[j] times the one n - j before.
     */
    static KrylovDesk chain(int p, int... last) {
        int n = last.length;
        KrylovDesk x = new KrylovDesk(p, n, 2 * n);
        for (int i = 0; i + 1 < n; i++) {
            x.entry(i + 1, i, 1);
        }
        for (int i = 0; i < n; i++) {
            x.entry(i, n - 1, last[i]);
        }
        x.side(0, 1);
        return x;
    }

    /** The least number from which the next draws, modulo p, are these. */
    static int seedFor(int p, int... u) {
        for (int g = 0; g < 10_000_000; g++) {
            if (draws(g, p, u)) {
                return g;
            }
        }
        throw new IllegalStateException("no such seed");
    }

    private static boolean draws(long g, int p, int[] u) {
        for (int want : u) {
            g = after(g);
            if (g / 65536 % p != want) {
                return false;
            }
        }
        return true;
    }

    /** The generator's number after a draw. */
    static long after(long g) {
        return (1103515245L * g + 12345L) % NUMBERS;
    }

    /** The number after which a draw makes the generator's number this one. */
    static int before(long g) {
        BigInteger modulus = BigInteger.valueOf(NUMBERS);
        BigInteger inverse = BigInteger.valueOf(1103515245L).modInverse(modulus);
        return BigInteger.valueOf(g - 12345L).multiply(inverse).mod(modulus).intValueExact();
    }
}
