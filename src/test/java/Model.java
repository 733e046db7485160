import java.math.BigInteger;

/**
 * The document once more, by other ways than the class goes: a full matrix, and the shortest recurrence
 * as the first d for which the linear equations of the row have a solution.
 */
final class Model {
    final int p;
    final int n;
    final int room;
    final long[][] a;
    final long[] b;
    int entries = 0;
    long g = 1;
    int attempts = 0;
    int products = 0;
    long[] row = null;
    long[] c = null;
    long[] solution = null;

    Model(int p, int n, int room) {
        this.p = nextPrime(clamp(p, 2, 46337));
        this.n = clamp(n, 1, 16);
        this.room = clamp(room, 1, 100);
        a = new long[this.n][this.n];
        b = new long[this.n];
    }

    private static int clamp(int value, int low, int high) {
        return value < low ? low : value > high ? high : value;
    }

    private static int nextPrime(int from) {
        return BigInteger.valueOf(from - 1).nextProbablePrime().intValueExact();
    }

    private long mod(long value) {
        return Math.floorMod(value, (long) p);
    }

    private boolean inside(int i) {
        return 0 <= i && i < n;
    }

    int entry(int r, int col, int value) {
        if (!inside(r) || !inside(col)) {
            return 1;
        }
        if (entries == room) {
            return 2;
        }
        entries++;
        a[r][col] = mod(a[r][col] + value);
        forget();
        return 0;
    }

    int side(int r, int value) {
        if (!inside(r)) {
            return 1;
        }
        b[r] = mod(value);
        forget();
        return 0;
    }

    private void forget() {
        row = null;
        c = null;
        solution = null;
    }

    void seed(int seed) {
        g = Math.floorMod((long) seed, 1L << 31);
    }

    int attempt() {
        attempts++;
        solution = null;
        long[] u = new long[n];
        for (int i = 0; i < n; i++) {
            g = (1103515245L * g + 12345L) % (1L << 31);
            u[i] = g / 65536 % p;
        }
        long[][] powers = new long[2 * n][];
        powers[0] = b.clone();
        for (int k = 1; k < 2 * n; k++) {
            powers[k] = times(powers[k - 1]);
        }
        row = new long[2 * n];
        for (int k = 0; k < 2 * n; k++) {
            for (int i = 0; i < n; i++) {
                row[k] = mod(row[k] + u[i] * powers[k][i]);
            }
        }
        c = shortest();
        int d = c.length - 1;
        if (d > 0 && c[d] == 0) {
            return 3;
        }
        long[] candidate = new long[n];
        if (d > 0) {
            products += d - 1;
            long factor = inverse(mod(-c[d]));
            for (int i = 0; i < n; i++) {
                long sum = 0;
                for (int j = 0; j < d; j++) {
                    sum = mod(sum + c[j] * powers[d - 1 - j][i]);
                }
                candidate[i] = mod(sum * factor);
            }
        }
        if (!java.util.Arrays.equals(times(candidate), b)) {
            return 4;
        }
        solution = candidate;
        return 0;
    }

    int solve(int most) {
        if (most < 1 || most > 50) {
            return 5;
        }
        int told = attempt();
        while (told != 0 && --most > 0) {
            told = attempt();
        }
        return told;
    }

    int solution(int i) {
        return solution == null || !inside(i) ? -1 : (int) solution[i];
    }

    int degree() {
        return c == null ? -1 : c.length - 1;
    }

    int coefficient(int i) {
        return c == null || i < 0 || i >= c.length ? -1 : (int) c[c.length - 1 - i];
    }

    int number(int i) {
        return row == null || i < 0 || i >= 2 * n ? -1 : (int) row[i];
    }

    boolean verify() {
        return solution != null && java.util.Arrays.equals(times(solution), b);
    }

    int count(int what) {
        long[] counts = {p, n, entries, g, attempts};
        return what < 0 || what > 4 ? -1 : (int) counts[what];
    }

    private long[] times(long[] v) {
        products++;
        long[] out = new long[n];
        for (int i = 0; i < n; i++) {
            for (int j = 0; j < n; j++) {
                out[i] = mod(out[i] + a[i][j] * v[j]);
            }
        }
        return out;
    }

    private long inverse(long value) {
        return BigInteger.valueOf(value).modInverse(BigInteger.valueOf(p)).longValueExact();
    }

    /** 1, c 1 .. c d for the least d that has one; by Cayley and Hamilton there is one of at most n. */
    private long[] shortest() {
        for (int d = 0; d <= n; d++) {
            long[] found = recurrenceOf(d);
            if (found != null) {
                return found;
            }
        }
        throw new IllegalStateException("no recurrence");
    }

    private long[] recurrenceOf(int d) {
        int equations = 2 * n - d;
        long[][] m = new long[equations][d + 1];
        for (int e = 0; e < equations; e++) {
            for (int i = 1; i <= d; i++) {
                m[e][i - 1] = row[e + d - i];
            }
            m[e][d] = mod(-row[e + d]);
        }
        int top = 0;
        for (int col = 0; col < d; col++) {
            int pivot = top;
            while (pivot < equations && m[pivot][col] == 0) {
                pivot++;
            }
            if (pivot == equations) {
                return null; // the least d has a single solution, so this d is not it
            }
            long[] swap = m[pivot];
            m[pivot] = m[top];
            m[top] = swap;
            long by = inverse(swap[col]);
            for (int j = 0; j <= d; j++) {
                m[top][j] = mod(m[top][j] * by);
            }
            for (int e = 0; e < equations; e++) {
                long less = m[e][col];
                for (int j = 0; e != top && j <= d; j++) {
                    m[e][j] = mod(m[e][j] - less * m[top][j]);
                }
            }
            top++;
        }
        for (int e = d; e < equations; e++) {
            if (m[e][d] != 0) {
                return null;
            }
        }
        long[] found = new long[d + 1];
        found[0] = 1;
        for (int i = 1; i <= d; i++) {
            found[i] = m[i - 1][d];
        }
        return found;
    }
}
