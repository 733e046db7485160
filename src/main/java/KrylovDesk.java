import java.util.Arrays;

/**
 * Sparse equations A x = b modulo a prime, solved by products of A with vectors alone.
 *
 * Every array is made in a constructor and used again by each call, so that no call after it makes
 * anything new.
 */
public final class KrylovDesk {
    public static final int BAD = -1, SOLVED = 0, CONSTANT = 3, WRONG = 4, NONE = 5;

    private static final int LEAST_MODULUS = 2, GREATEST_MODULUS = 46337;
    private static final int MOST_ROWS = 16;
    private static final int MOST_ENTRIES = 100;
    private static final int MOST_ATTEMPTS = 50;
    private static final int TAKEN = 0, NO_PLACE = 1, NO_ROOM = 2;

    private final Modulus modulus;
    private final Matrix matrix;
    private final Generator generator;
    private final Recurrence recurrence;
    private final int size;
    private final int[] right;
    private final int[] chance;
    private final int[] work;
    private final int[] numbers;
    private final int[] answer;
    private boolean rowStands;
    private boolean answerStands;
    private int attemptsMade;

    public KrylovDesk(int p, int n, int entries) {
        size = broughtWithin(n, 1, MOST_ROWS);
        modulus = new Modulus(leastPrimeFrom(broughtWithin(p, LEAST_MODULUS, GREATEST_MODULUS)));
        matrix = new Matrix(modulus, size, broughtWithin(entries, 1, MOST_ENTRIES));
        generator = new Generator();
        recurrence = new Recurrence(modulus, 2 * size);
        right = new int[size];
        chance = new int[size];
        work = new int[size];
        numbers = new int[2 * size];
        answer = new int[size];
    }

    public int entry(int row, int column, int value) {
        if (!isPlace(row) || !isPlace(column)) {
            return NO_PLACE;
        }
        if (matrix.isFull()) {
            return NO_ROOM;
        }
        matrix.put(row, column, modulus.reduce(value));
        forgetResults();
        return TAKEN;
    }

    public int side(int row, int value) {
        if (!isPlace(row)) {
            return NO_PLACE;
        }
        right[row] = modulus.reduce(value);
        forgetResults();
        return TAKEN;
    }

    public void seed(int g) {
        generator.restart(g);
    }

    public int attempt() {
        attemptsMade++;
        answerStands = false;
        drawChance();
        fillRow();
        recurrence.find(numbers);
        rowStands = true;
        if (recurrence.length > 0 && recurrence.lastTerm() == 0) {
            return CONSTANT;
        }
        makeCandidate();
        answerStands = answerMeetsRight();
        return answerStands ? SOLVED : WRONG;
    }

    public int solve(int most) {
        if (most < 1 || most > MOST_ATTEMPTS) {
            return NONE;
        }
        int told = NONE;
        for (int made = 0; made < most && told != SOLVED; made++) {
            told = attempt();
        }
        return told;
    }

    public int solution(int i) {
        return answerStands && isPlace(i) ? answer[i] : BAD;
    }

    public int degree() {
        return rowStands ? recurrence.length : BAD;
    }

    public int coefficient(int i) {
        if (!rowStands || i < 0 || i > recurrence.length) {
            return BAD;
        }
        return recurrence.term(recurrence.length - i);
    }

    public int number(int i) {
        return rowStands && i >= 0 && i < numbers.length ? numbers[i] : BAD;
    }

    public boolean verify() {
        return answerStands && answerMeetsRight();
    }

    public int products() {
        return matrix.productsMade;
    }

    public int count(int what) {
        switch (what) {
            case 0:
                return modulus.prime;
            case 1:
                return size;
            case 2:
                return matrix.held;
            case 3:
                return generator.state;
            case 4:
                return attemptsMade;
            default:
                return BAD;
        }
    }

    private boolean isPlace(int i) {
        return i >= 0 && i < size;
    }

    private void forgetResults() {
        rowStands = false;
        answerStands = false;
    }

    private void drawChance() {
        for (int i = 0; i < size; i++) {
            chance[i] = modulus.reduce(generator.next());
        }
    }

    private void fillRow() {
        System.arraycopy(right, 0, work, 0, size);
        numbers[0] = chanceTimesWork();
        for (int k = 1; k < numbers.length; k++) {
            matrix.apply(work);
            numbers[k] = chanceTimesWork();
        }
    }

    private int chanceTimesWork() {
        int sum = 0;
        for (int i = 0; i < size; i++) {
            sum = modulus.plusProduct(sum, chance[i], work[i]);
        }
        return sum;
    }

    private void makeCandidate() {
        if (recurrence.length == 0) {
            Arrays.fill(answer, 0);
            return;
        }
        System.arraycopy(right, 0, work, 0, size);
        for (int i = 1; i < recurrence.length; i++) {
            matrix.apply(work);
            addRightToWork(recurrence.term(i));
        }
        int factor = modulus.inverse(modulus.negative(recurrence.lastTerm()));
        for (int i = 0; i < size; i++) {
            answer[i] = modulus.plusProduct(0, work[i], factor);
        }
    }

    private void addRightToWork(int factor) {
        for (int i = 0; i < size; i++) {
            work[i] = modulus.plusProduct(work[i], factor, right[i]);
        }
    }

    private boolean answerMeetsRight() {
        System.arraycopy(answer, 0, work, 0, size);
        matrix.apply(work);
        for (int i = 0; i < size; i++) {
            if (work[i] != right[i]) {
                return false;
            }
        }
        return true;
    }

    private static int broughtWithin(int value, int least, int greatest) {
        return Math.max(least, Math.min(greatest, value));
    }

    private static int leastPrimeFrom(int from) {
        for (int candidate = from; candidate < GREATEST_MODULUS; candidate++) {
            if (isPrime(candidate)) {
                return candidate;
            }
        }
        // The greatest modulus is itself a prime, so the search never has to go beyond it.
        return GREATEST_MODULUS;
    }

    private static boolean isPrime(int candidate) {
        for (int divisor = 2; divisor * divisor <= candidate; divisor++) {
            if (candidate % divisor == 0) {
                return false;
            }
        }
        return candidate > 1;
    }

    /** Arithmetic on the numbers 0 .. prime - 1. The prime is at least 2, so it may divide. */
    private static final class Modulus {
        final int prime;

        Modulus(int prime) {
            this.prime = Math.max(LEAST_MODULUS, prime);
        }

        int reduce(int value) {
            int rest = value % prime;
            return rest < 0 ? rest + prime : rest;
        }

        int negative(int a) {
            return a == 0 ? 0 : prime - a;
        }

        int plusProduct(int sum, int a, int b) {
            return (int) ((sum + (long) a * b) % prime);
        }

        /** By Fermat's theorem, a to the power prime - 2; that needs no division that could fail. */
        int inverse(int a) {
            int result = 1;
            int square = a;
            for (int left = prime - 2; left > 0; left /= 2) {
                if (left % 2 == 1) {
                    result = plusProduct(0, result, square);
                }
                square = plusProduct(0, square, square);
            }
            return result;
        }
    }

    /** The entries as they came; those at one place add up in each product. */
    private static final class Matrix {
        private final Modulus modulus;
        private final int[] rows;
        private final int[] columns;
        private final int[] values;
        private final int[] sums;
        int held;
        int productsMade;

        Matrix(Modulus modulus, int size, int room) {
            this.modulus = modulus;
            rows = new int[room];
            columns = new int[room];
            values = new int[room];
            sums = new int[size];
        }

        boolean isFull() {
            return held >= values.length;
        }

        /** The caller has looked that there is room and that the place is in the matrix. */
        void put(int row, int column, int value) {
            rows[held] = row;
            columns[held] = column;
            values[held] = value;
            held++;
        }

        /** A product: the vector, as long as the matrix has rows, becomes the matrix times it. */
        void apply(int[] vector) {
            productsMade++;
            Arrays.fill(sums, 0);
            for (int i = 0; i < held; i++) {
                int row = rows[i];
                sums[row] = modulus.plusProduct(sums[row], values[i], vector[columns[i]]);
            }
            System.arraycopy(sums, 0, vector, 0, sums.length);
        }
    }

    /** The generator of the document, without its last step: the draw is yet to be reduced. */
    private static final class Generator {
        private static final int FACTOR = 1103515245, ADDEND = 12345;
        private static final int LOWER_31_BITS = 0x7fffffff;
        private static final int CUT_OFF = 65536;

        int state = 1;

        void restart(int g) {
            state = g & LOWER_31_BITS;
        }

        int next() {
            // The wrap-around at 2^32 leaves the lower 31 bits right.
            state = (FACTOR * state + ADDEND) & LOWER_31_BITS;
            return state / CUT_OFF;
        }
    }

    /** Section 2 of the document; its letters C, B, T, L, m and e stand beside the fields. */
    private static final class Recurrence {
        private final Modulus modulus;
        private final int[] terms; // C
        private final int[] olderTerms; // B
        private final int[] keptTerms; // T
        int length; // L
        private int shift; // m
        private int olderMiss; // e

        Recurrence(Modulus modulus, int numbers) {
            this.modulus = modulus;
            // The length is at most the count of numbers, and there is a term 0 before all others.
            int room = Math.max(0, numbers) + 1;
            terms = new int[room];
            olderTerms = new int[room];
            keptTerms = new int[room];
        }

        int term(int i) {
            return i >= 0 && i < terms.length ? terms[i] : 0;
        }

        int lastTerm() {
            return term(length);
        }

        void find(int[] row) {
            Arrays.fill(terms, 0);
            Arrays.fill(olderTerms, 0);
            terms[0] = 1;
            olderTerms[0] = 1;
            length = 0;
            shift = 1;
            olderMiss = 1;
            for (int k = 0; k < row.length; k++) {
                learn(row, k);
            }
        }

        private void learn(int[] row, int k) {
            int miss = missAt(row, k);
            if (miss == 0) {
                shift++;
                return;
            }
            int factor = modulus.plusProduct(0, miss, modulus.inverse(olderMiss));
            System.arraycopy(terms, 0, keptTerms, 0, terms.length);
            subtractOlder(factor);
            if (2 * length > k) {
                shift++;
                return;
            }
            length = k + 1 - length;
            System.arraycopy(keptTerms, 0, olderTerms, 0, keptTerms.length);
            olderMiss = miss;
            shift = 1;
        }

        private int missAt(int[] row, int k) {
            int miss = row[k];
            for (int i = 1; i <= length && i <= k; i++) {
                miss = modulus.plusProduct(miss, term(i), row[k - i]);
            }
            return miss;
        }

        private void subtractOlder(int factor) {
            int less = modulus.negative(factor);
            for (int i = 0; i + shift < terms.length; i++) {
                terms[i + shift] = modulus.plusProduct(terms[i + shift], less, olderTerms[i]);
            }
        }
    }
}
