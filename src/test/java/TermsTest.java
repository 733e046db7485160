/**
 * The boundary cases of the document's "Terms", which the promises lean on: a test for each, with the number
 * of the promise that would be broken and the sentence that it holds the class to.
 */
public final class TermsTest {
    private static final Checks CHECKS = new Checks();
    private static final int BAD = KrylovDesk.BAD;

    public static void main(String[] args) {
        CHECKS.runAll(TermsTest.class);
        CHECKS.end();
    }

    /** n draws are u; A is 0, so the row is u times b, and then 0. */
    private static int firstNumber(int p, int g, int b) {
        KrylovDesk x = new KrylovDesk(p, 1, 1);
        x.side(0, b);
        x.seed(g);
        x.attempt();
        return x.number(0);
    }

    /** Promise 2: "ENTRIES (row, column, value) add up where they are at one place". */
    static void termsEntriesAtOnePlaceAddUp() {
        KrylovDesk x = new KrylovDesk(46337, 2, 4);
        x.entry(1, 0, 30000);
        x.entry(0, 1, 5);
        x.entry(1, 0, 20000);
        x.entry(1, 0, -3);
        x.side(0, 1);
        x.attempt();
        CHECKS.due("number 1", x.number(1), (long) Desks.DRAWS[1] * (49997 - 46337) % 46337);
    }

    /** Promise 2: "ENTRIES .. add up", modulo P: P - 1 and 1 are 0 together. */
    static void termsEntriesMayAddUpToNothing() {
        KrylovDesk x = new KrylovDesk(46337, 1, 2);
        x.entry(0, 0, 46336);
        x.entry(0, 0, 1);
        x.side(0, 1);
        CHECKS.due("attempt", x.attempt(), KrylovDesk.CONSTANT);
        CHECKS.due("number 1", x.number(1), 0);
    }

    /**
     * Promise 2: "ENTRIES .. add up", all hundred of them at their greatest, in the greatest P: 100 by (P - 1)
     * is P - 100.
     */
    static void termsHundredGreatestEntriesAddUp() {
        KrylovDesk x = new KrylovDesk(46337, 1, 100);
        for (int i = 0; i < 100; i++) {
            x.entry(0, 0, 46336);
        }
        x.side(0, 46336);
        x.seed(Desks.before(Integer.MAX_VALUE));
        x.attempt();
        CHECKS.due("number 0", x.number(0), 46337 - 32767);
        CHECKS.due("number 1", x.number(1), 100 * 32767 % 46337);
    }

    /** Promises 1, 13: "THE GENERATOR has a number g .. (1 at first)". */
    static void termsGeneratorIs1AtFirst() {
        KrylovDesk x = new KrylovDesk(46337, 1, 1);
        CHECKS.due("the number", x.count(3), 1);
        x.side(0, 1);
        x.attempt();
        CHECKS.due("the first draw", x.number(0), Desks.DRAWS[0]);
    }

    /** Promises 4, 5: "a DRAW makes it 1,103,515,245 g + 12,345": from 0. */
    static void termsDrawFromNumber0() {
        KrylovDesk x = new KrylovDesk(46337, 1, 1);
        x.seed(0);
        x.attempt();
        CHECKS.due("the number", x.count(3), 12345);
    }

    /** Promises 4, 5: "modulo 2^31": from the greatest number, where it wraps around. */
    static void termsDrawFromTheGreatestNumber() {
        KrylovDesk x = new KrylovDesk(46337, 1, 1);
        x.side(0, 1);
        x.seed(Integer.MAX_VALUE);
        x.attempt();
        CHECKS.due("the number", x.count(3), 12345L - 1103515245L + (1L << 31));
        CHECKS.due("the draw", x.number(0), 15929);
    }

    /** Promises 5, 13: "g, 0 .. 2^31 - 1": a draw may bring it to both ends, and it is never below 0 or above. */
    static void termsGeneratorStaysWithin() {
        KrylovDesk x = new KrylovDesk(46337, 1, 1);
        for (int g : new int[] {0, 1, Integer.MAX_VALUE - 1, Integer.MAX_VALUE}) {
            x.seed(Desks.before(g));
            x.attempt();
            CHECKS.due("the number", x.count(3), g);
        }
        KrylovDesk y = new KrylovDesk(46337, 16, 1);
        long g = 1;
        for (int i = 0; i < 400; i++) {
            for (int j = 0; j < 16; j++) {
                g = Desks.after(g);
            }
            y.attempt();
            CHECKS.due("the number after attempt " + i, y.count(3), g);
        }
    }

    /** Promise 5: "gives g / 65,536, cut off": just below and at a whole number, and at both ends. */
    static void termsDrawIsCutOff() {
        CHECKS.due("of 0", firstNumber(46337, Desks.before(0), 1), 0);
        CHECKS.due("of 65535", firstNumber(46337, Desks.before(65535), 1), 0);
        CHECKS.due("of 65536", firstNumber(46337, Desks.before(65536), 1), 1);
        CHECKS.due("of 131071", firstNumber(46337, Desks.before(131071), 1), 1);
        CHECKS.due("of 131072", firstNumber(46337, Desks.before(131072), 1), 2);
        CHECKS.due("of 2^31 - 1", firstNumber(46337, Desks.before(Integer.MAX_VALUE), 1), 32767);
    }

    /** Promise 5: "gives g / 65,536, cut off, modulo P": just below P, at it and above it. */
    static void termsDrawIsModuloP() {
        for (int p : new int[] {2, 3, 101, 32749}) {
            for (int draw : new int[] {p - 1, p, p + 1}) {
                int got = firstNumber(p, Desks.before(draw * 65536L), 1);
                CHECKS.due("draw " + draw + " modulo " + p, got, draw - p + (draw < p ? p : 0));
            }
        }
    }

    /** Promise 5: "u is n draws, in order": draw i meets number i of b, from the first to the last. */
    static void termsDrawsAreInOrder() {
        for (int i = 0; i < Desks.DRAWS.length; i++) {
            KrylovDesk x = new KrylovDesk(46337, Desks.DRAWS.length, 1);
            x.side(i, 1);
            x.attempt();
            CHECKS.due("draw " + i, x.number(0), Desks.DRAWS[i]);
        }
    }

    /** Promise 5: "u is n draws", never more or fewer: if b is 0 too, and whatever the attempt tells. */
    static void termsEachAttemptDrawsN() {
        KrylovDesk zero = new KrylovDesk(7, 3, 1);
        CHECKS.due("b is 0", zero.attempt(), KrylovDesk.SOLVED);
        CHECKS.due("its third draw", zero.count(3) / 65536, Desks.DRAWS[2]);
        KrylovDesk constant = new KrylovDesk(46337, 3, 1);
        constant.side(0, 1);
        CHECKS.due("A is 0", constant.attempt(), KrylovDesk.CONSTANT);
        CHECKS.due("its third draw", constant.count(3) / 65536, Desks.DRAWS[2]);
        KrylovDesk wrong = Desks.coin();
        CHECKS.due("an even draw", wrong.attempt(), KrylovDesk.WRONG);
        CHECKS.due("its one draw", wrong.count(3) / 65536, Desks.DRAWS[0]);
    }

    /** Promise 5: "u is n draws": those of the next attempt go on where the last one ended. */
    static void termsDrawsGoOnFromAttemptToAttempt() {
        KrylovDesk x = new KrylovDesk(46337, 2, 1);
        x.side(1, 1);
        for (int i = 0; i < 5; i++) {
            x.attempt();
            CHECKS.due("attempt " + i, x.number(0), Desks.DRAWS[2 * i + 1]);
        }
    }

    /**
     * Promises 5, 10, 12: "The ROW is u times b, u times A b, .. (2 n numbers; 2 n - 1 products)": CONSTANT
     * makes no other product.
     */
    static void termsRowTakes2nLess1Products() {
        for (int n = 1; n <= 16; n++) {
            KrylovDesk x = new KrylovDesk(46337, n, 1);
            x.side(0, 1);
            CHECKS.due("n " + n, x.attempt(), KrylovDesk.CONSTANT);
            CHECKS.due("products for n " + n, x.products(), 2 * n - 1);
            CHECKS.due("the last number for n " + n, x.number(2 * n - 1), 0);
            CHECKS.due("behind the last for n " + n, x.number(2 * n), BAD);
        }
    }

    /** Promise 5: "u times A b": A times b, not b times A; a row of A makes one number of the product. */
    static void termsProductIsATimesTheVector() {
        KrylovDesk x = new KrylovDesk(46337, 2, 1);
        x.entry(1, 0, 1);
        x.side(0, 1);
        x.attempt();
        CHECKS.due("number 0", x.number(0), Desks.DRAWS[0]);
        CHECKS.due("number 1", x.number(1), Desks.DRAWS[1]);
        CHECKS.due("number 2", x.number(2), 0);
    }

    /**
     * Promise 5: "ALL NUMBERS are modulo a prime P": the greatest numbers in the greatest P, all places of n 16
     * together.
     */
    static void termsGreatestNumbersStayRight() {
        KrylovDesk x = new KrylovDesk(46337, 16, 16);
        Model model = new Model(46337, 16, 16);
        for (int i = 0; i < 16; i++) {
            CHECKS.due("entry", x.entry(i, (i + 1) % 16, -1), model.entry(i, (i + 1) % 16, -1));
            CHECKS.due("side", x.side(i, i % 3 == 0 ? -1 : 46335), model.side(i, i % 3 == 0 ? -1 : 46335));
        }
        CHECKS.due("attempt", x.attempt(), model.attempt());
        CHECKS.due("degree", x.degree(), model.degree());
        for (int i = 0; i < 32; i++) {
            CHECKS.due("number " + i, x.number(i), model.number(i));
            CHECKS.due("coefficient " + i, x.coefficient(i), model.coefficient(i));
            CHECKS.due("solution " + i, x.solution(i), model.solution(i));
        }
    }

    /**
     * Promises 5, 7: "the CANDIDATE is 0 for d 0": b is 0, and so it is the solution; the check is one product.
     */
    static void termsDegree0SolvesIfBIs0() {
        KrylovDesk x = new KrylovDesk(46337, 3, 1);
        x.entry(0, 0, 5);
        CHECKS.due("attempt", x.attempt(), KrylovDesk.SOLVED);
        CHECKS.due("degree", x.degree(), 0);
        for (int i = 0; i < 3; i++) {
            CHECKS.due("solution " + i, x.solution(i), 0);
        }
        CHECKS.due("products", x.products(), 5 + 1);
    }

    /** Promises 5, 7: "the CANDIDATE is 0 for d 0", whatever the solution before it was. */
    static void termsDegree0LeavesNothingOfAnOlderSolution() {
        KrylovDesk x = Desks.pair();
        x.attempt();
        CHECKS.due("before", x.solution(1), 2);
        x.side(0, 0);
        x.side(1, 0);
        CHECKS.due("attempt", x.attempt(), KrylovDesk.SOLVED);
        CHECKS.due("solution 0", x.solution(0), 0);
        CHECKS.due("solution 1", x.solution(1), 0);
    }

    /** Promise 5: "the CANDIDATE is 0 for d 0 .. else WRONG": a u that sees nothing of b, which is not 0. */
    static void termsDegree0IsWrongIfBIsNot0() {
        KrylovDesk x = Desks.coin();
        x.seed(Desks.seedFor(2, 0));
        CHECKS.due("attempt", x.attempt(), KrylovDesk.WRONG);
        CHECKS.due("degree", x.degree(), 0);
        CHECKS.due("solution", x.solution(0), BAD);
        CHECKS.due("products", x.products(), 1 + 1);
    }

    /** Promise 5: "If d is above 0 and c d is 0: CONSTANT": the least d, 1. */
    static void termsConstantOfDegree1() {
        KrylovDesk x = new KrylovDesk(46337, 1, 1);
        x.side(0, 1);
        CHECKS.due("attempt", x.attempt(), KrylovDesk.CONSTANT);
        CHECKS.due("degree", x.degree(), 1);
        CHECKS.due("coefficient 0", x.coefficient(0), 0);
        CHECKS.due("coefficient 1", x.coefficient(1), 1);
    }

    /** Promise 5: "If d is above 0 and c d is 0: CONSTANT": the greatest d, 16. */
    static void termsConstantOfDegree16() {
        KrylovDesk x = Desks.chain(46337, new int[16]);
        CHECKS.due("attempt", x.attempt(), KrylovDesk.CONSTANT);
        CHECKS.due("degree", x.degree(), 16);
        for (int i = 0; i < 16; i++) {
            CHECKS.due("coefficient " + i, x.coefficient(i), 0);
        }
        CHECKS.due("coefficient 16", x.coefficient(16), 1);
        CHECKS.due("products", x.products(), 31);
    }

    /** Promise 5: "c d is 0": it alone counts, the others may be what they are; and there is no solution then. */
    static void termsConstantLooksAtTheLastAlone() {
        KrylovDesk x = new KrylovDesk(46337, 2, 1);
        x.entry(0, 0, 1);
        x.side(0, 1);
        x.side(1, 1);
        CHECKS.due("attempt", x.attempt(), KrylovDesk.CONSTANT);
        CHECKS.due("degree", x.degree(), 2);
        CHECKS.due("coefficient 0", x.coefficient(0), 0);
        CHECKS.due("coefficient 1", x.coefficient(1), 46336);
        CHECKS.due("solution", x.solution(0), BAD);
        CHECKS.due("verify", x.verify(), false);
        CHECKS.due("products", x.products(), 3);
    }

    /**
     * Promise 5: "c d is 0": others that are 0 do not make it CONSTANT; A turns all places round, and x^16 - 1
     * solves.
     */
    static void termsOtherZerosAreNotConstant() {
        int[] last = new int[16];
        last[0] = 1;
        KrylovDesk x = Desks.chain(46337, last);
        CHECKS.due("attempt", x.attempt(), KrylovDesk.SOLVED);
        CHECKS.due("degree", x.degree(), 16);
        CHECKS.due("coefficient 0", x.coefficient(0), 46336);
        for (int i = 1; i < 16; i++) {
            CHECKS.due("coefficient " + i, x.coefficient(i), 0);
            CHECKS.due("solution " + i, x.solution(i), i == 15 ? 1 : 0);
        }
    }

    /** Promise 5: "Otherwise": a matrix without an inverse may still be solved, where b is made by it. */
    static void termsSingularMatrixMayBeSolved() {
        KrylovDesk x = new KrylovDesk(46337, 3, 1);
        x.entry(1, 1, 2);
        x.side(1, 6);
        CHECKS.due("attempt", x.attempt(), KrylovDesk.SOLVED);
        CHECKS.due("solution 0", x.solution(0), 0);
        CHECKS.due("solution 1", x.solution(1), 3);
        CHECKS.due("solution 2", x.solution(2), 0);
    }

    /**
     * Promises 5, 12: "for i 1 .. d - 1 in order": none for d 1, so the check is the one product beyond the
     * row's.
     */
    static void termsCandidateOfDegree1() {
        KrylovDesk x = new KrylovDesk(46337, 16, 16);
        for (int i = 0; i < 16; i++) {
            x.entry(i, i, 3);
            x.side(i, 3 * i);
        }
        CHECKS.due("attempt", x.attempt(), KrylovDesk.SOLVED);
        CHECKS.due("degree", x.degree(), 1);
        CHECKS.due("coefficient 0", x.coefficient(0), 46334);
        for (int i = 0; i < 16; i++) {
            CHECKS.due("solution " + i, x.solution(i), i);
        }
        CHECKS.due("products", x.products(), 31 + 1);
    }

    /** Promises 5, 12: "for i 1 .. d - 1 in order": 15 products for d 16, and one for the check. */
    static void termsCandidateOfDegree16() {
        int[] last = {7, 1, 2, 3, 4, 5, 6, 7, 8, 9, 10, 11, 12, 13, 14, 15};
        KrylovDesk x = Desks.chain(46337, last);
        CHECKS.due("attempt", x.attempt(), KrylovDesk.SOLVED);
        CHECKS.due("degree", x.degree(), 16);
        for (int i = 0; i < 16; i++) {
            CHECKS.due("coefficient " + i, x.coefficient(i), 46337 - last[i]);
        }
        // A times place 15 is the list; so 7 x15 = 1, and each other x is less what x15 brings.
        long x15 = x.solution(15);
        CHECKS.due("7 times the last", 7 * x15 % 46337, 1);
        for (int i = 1; i < 16; i++) {
            CHECKS.due("place " + i, (x.solution(i - 1) + last[i] * x15) % 46337, 0);
        }
        CHECKS.due("products", x.products(), 31 + 15 + 1);
    }

    /** Promise 5: "w by - c d": in the least P, where - 1 is 1. */
    static void termsCandidateModulo2() {
        KrylovDesk x = Desks.coin();
        x.seed(Desks.seedFor(2, 1));
        CHECKS.due("attempt", x.attempt(), KrylovDesk.SOLVED);
        CHECKS.due("degree", x.degree(), 1);
        CHECKS.due("coefficient 0", x.coefficient(0), 1);
        CHECKS.due("solution", x.solution(0), 1);
    }

    /**
     * Promises 5, 7: "If A times it (a product) is b, it is the SOLUTION; else WRONG, and there is none": none
     * of an older one.
     */
    static void termsWrongLeavesNoSolution() {
        // u sees the second place alone, so the polynomial is x - 2, and its candidate misses the first one.
        KrylovDesk x = new KrylovDesk(3, 2, 2);
        x.entry(0, 0, 1);
        x.entry(1, 1, 2);
        x.side(0, 1);
        x.side(1, 1);
        x.seed(Desks.seedFor(3, 1, 1));
        CHECKS.due("first", x.attempt(), KrylovDesk.SOLVED);
        CHECKS.due("solution 0", x.solution(0), 1);
        CHECKS.due("solution 1", x.solution(1), 2);
        x.seed(Desks.seedFor(3, 0, 1));
        CHECKS.due("second", x.attempt(), KrylovDesk.WRONG);
        CHECKS.due("degree", x.degree(), 1);
        CHECKS.due("coefficient 0", x.coefficient(0), 1);
        CHECKS.due("solution 0", x.solution(0), BAD);
        CHECKS.due("solution 1", x.solution(1), BAD);
        CHECKS.due("verify", x.verify(), false);
    }

    /** Promise 5: "If A times it is b": all of b, the last number too. */
    static void termsCheckLooksAtEveryNumber() {
        for (int seen = 0; seen < 2; seen++) {
            KrylovDesk x = new KrylovDesk(3, 2, 2);
            x.entry(0, 0, 1);
            x.entry(1, 1, 2);
            x.side(0, 1);
            x.side(1, 1);
            x.seed(Desks.seedFor(3, 1 - seen, seen));
            CHECKS.due("place " + seen + " seen alone", x.attempt(), KrylovDesk.WRONG);
        }
    }

    /** Promises 5, 8, 9: SECTION 2, "If D is 0, m is one more": a row that begins with zeros. */
    static void termsRowThatBeginsWithZeros() {
        KrylovDesk x = Desks.chain(2, 1, 0, 0);
        x.seed(Desks.seedFor(2, 0, 0, 1));
        CHECKS.due("attempt", x.attempt(), KrylovDesk.SOLVED);
        for (int i = 0; i < 6; i++) {
            CHECKS.due("number " + i, x.number(i), i % 3 == 2 ? 1 : 0);
        }
        CHECKS.due("degree", x.degree(), 3);
        CHECKS.due("coefficient 0", x.coefficient(0), 1);
        CHECKS.due("coefficient 1", x.coefficient(1), 0);
        CHECKS.due("coefficient 2", x.coefficient(2), 0);
        CHECKS.due("coefficient 3", x.coefficient(3), 1);
    }

    /**
     * Promises 5, 8, 9: "the least d, and c 1 .. c d": of every row that there is for n 1 .. 4 modulo 2, n 1 ..
     * 3 modulo 3.
     */
    static void termsRecurrenceIsTheShortest() {
        for (int n = 1; n <= 4; n++) {
            compareEveryRow(2, n);
        }
        for (int n = 1; n <= 3; n++) {
            compareEveryRow(3, n);
        }
        compareEveryRow(5, 2);
    }

    private static void compareEveryRow(int p, int n) {
        int all = (int) Math.pow(p, n);
        for (int drawn = 0; drawn < all; drawn++) {
            int g = Desks.seedFor(p, digits(p, n, drawn));
            for (int last = 0; last < all; last++) {
                KrylovDesk x = Desks.chain(p, digits(p, n, last));
                x.seed(g);
                x.attempt();
                compareRecurrence(x, p, n);
            }
        }
    }

    /** The first d for which one of all the c 1 .. c d there are does what the document asks of them. */
    private static void compareRecurrence(KrylovDesk x, int p, int n) {
        for (int d = 0; d <= n; d++) {
            for (int tried = 0; tried < Math.pow(p, d); tried++) {
                int[] c = digits(p, d, tried);
                if (isRecurrence(x, p, 2 * n, c)) {
                    CHECKS.due("degree", x.degree(), d);
                    CHECKS.due("head", x.coefficient(d), 1);
                    for (int i = 1; i <= d; i++) {
                        CHECKS.due("c " + i, x.coefficient(d - i), c[i - 1]);
                    }
                    return;
                }
            }
        }
        CHECKS.due("a recurrence of at most n was found", false, true);
    }

    private static boolean isRecurrence(KrylovDesk x, int p, int numbers, int[] c) {
        for (int k = c.length; k < numbers; k++) {
            int sum = x.number(k);
            for (int i = 1; i <= c.length; i++) {
                sum += c[i - 1] * x.number(k - i);
            }
            if (sum % p != 0) {
                return false;
            }
        }
        return true;
    }

    private static int[] digits(int p, int n, int value) {
        int[] digits = new int[n];
        for (int i = 0; i < n; i++) {
            digits[i] = value % p;
            value /= p;
        }
        return digits;
    }

    /**
     * Promises 6, 12, 13: "An object is used for at most 512 calls": the last of them is still answered, after
     * the dearest ones.
     */
    static void termsCall512IsAnswered() {
        KrylovDesk x = Desks.chain(46337, new int[16]);
        int calls = 15 + 16 + 1;
        CHECKS.due("all entries were taken", x.count(2), 31);
        calls++;
        int solves = 0;
        for (; calls < 510; calls++) {
            CHECKS.due("solve", x.solve(50), KrylovDesk.CONSTANT);
            solves++;
        }
        CHECKS.due("call 511: attempts", x.count(4), 50 * solves);
        CHECKS.due("call 512: products", x.products(), 31 * 50 * solves);
    }
}
