/**
 * Each promise by its number, with answers worked out by hand. From the number 1 the generator gives,
 * before it is taken modulo P: 16838, 5758, 10113, 17515, 31051, 5627, 23010, 7419, 16212, 4086.
 */
public final class PromiseTest {
    private static final int[] DRAWS = {16838, 5758, 10113, 17515, 31051, 5627, 23010, 7419, 16212, 4086};
    private static final int[] EXTREMES = {Integer.MIN_VALUE, -1000, -1, 1000, Integer.MAX_VALUE};

    private static final Checks CHECKS = new Checks();

    public static void main(String[] args) {
        promise1();
        promise2();
        promise2Forgets();
        promise3();
        promise4();
        promise5Solved();
        promise5Constant();
        promise5Wrong();
        promise5OddDegrees();
        promise6();
        promise7();
        promise8And9();
        promise10();
        promise11();
        promise12();
        promise13();
        CHECKS.end();
    }

    /** 1 by 1, modulo 2, A and b being 1: an attempt is SOLVED if the draw is odd, else WRONG. */
    private static KrylovDesk coin() {
        KrylovDesk x = new KrylovDesk(2, 1, 1);
        x.entry(0, 0, 1);
        x.side(0, 1);
        return x;
    }

    /** x0 + x1 = 3, 2 x1 = 4, modulo 46337: the solution is 1, 2. */
    private static KrylovDesk pair() {
        KrylovDesk x = new KrylovDesk(46337, 2, 10);
        x.entry(0, 0, 1);
        x.entry(0, 1, 1);
        x.entry(1, 1, 2);
        x.side(0, 3);
        x.side(1, 4);
        return x;
    }

    private static void promise1() {
        int[][] primes = {
            {Integer.MIN_VALUE, 2}, {-5, 2}, {0, 2}, {1, 2}, {2, 2}, {3, 3}, {4, 5}, {8, 11}, {9, 11}, {24, 29},
            {25, 29}, {90, 97}, {121, 127}, {1024, 1031}, {31398, 31469}, {46328, 46337}, {46327, 46327},
            {46336, 46337}, {46337, 46337}, {46338, 46337}, {Integer.MAX_VALUE, 46337}
        };
        for (int[] pair : primes) {
            CHECKS.due("1: P of " + pair[0], new KrylovDesk(pair[0], 1, 1).count(0), pair[1]);
        }
        int[][] sizes = {
            {Integer.MIN_VALUE, 1}, {-1, 1}, {0, 1}, {1, 1}, {2, 2}, {15, 15}, {16, 16}, {17, 16},
            {Integer.MAX_VALUE, 16}
        };
        for (int[] pair : sizes) {
            CHECKS.due("1: n of " + pair[0], new KrylovDesk(7, pair[0], 1).count(1), pair[1]);
        }
        int[][] rooms = {
            {Integer.MIN_VALUE, 1}, {-1, 1}, {0, 1}, {1, 1}, {2, 2}, {99, 99}, {100, 100}, {101, 100},
            {Integer.MAX_VALUE, 100}
        };
        for (int[] pair : rooms) {
            CHECKS.due("1: room of " + pair[0], entriesTaken(new KrylovDesk(7, 3, pair[0])), pair[1]);
        }
        KrylovDesk x = new KrylovDesk(7, 3, 5);
        CHECKS.due("1: entries", x.count(2), 0);
        CHECKS.due("1: generator", x.count(3), 1);
        CHECKS.due("1: attempts", x.count(4), 0);
        CHECKS.due("1: products", x.products(), 0);
        CHECKS.due("1: b is 0, so 0 solves", x.attempt(), KrylovDesk.SOLVED);
        CHECKS.due("1: solution", x.solution(2), 0);
    }

    private static int entriesTaken(KrylovDesk x) {
        int taken = 0;
        for (int i = 0; i < 110; i++) {
            if (x.entry(2, 1, 1) == 0) {
                taken++;
            }
        }
        CHECKS.due("1: entries held", x.count(2), taken);
        return taken;
    }

    private static void promise2() {
        KrylovDesk x = new KrylovDesk(7, 2, 3);
        int[][] noPlaces = {{2, 0}, {0, 2}, {-1, 0}, {0, -1}, {16, 16}};
        for (int[] place : noPlaces) {
            CHECKS.due("2: no such place", x.entry(place[0], place[1], 1), 1);
        }
        for (int far : EXTREMES) {
            CHECKS.due("2: no such row", x.entry(far, 0, 1), 1);
            CHECKS.due("2: no such column", x.entry(0, far, 1), 1);
        }
        CHECKS.due("2: nothing was taken", x.count(2), 0);
        CHECKS.due("2: first", x.entry(0, 0, 3), 0);
        CHECKS.due("2: second", x.entry(1, 1, 0), 0);
        CHECKS.due("2: a value of 0 is an entry too", x.count(2), 2);
        CHECKS.due("2: third, at the same place", x.entry(0, 0, -5), 0);
        CHECKS.due("2: no room", x.entry(1, 1, 1), 2);
        CHECKS.due("2: no place comes before no room", x.entry(2, 1, 1), 1);
        CHECKS.due("2: entries", x.count(2), 3);

        int[][] values = {
            {-1, 6}, {-7, 0}, {-8, 6}, {7, 0}, {8, 1}, {Integer.MIN_VALUE, 5}, {Integer.MAX_VALUE, 1}
        };
        for (int[] value : values) {
            CHECKS.due("2: value " + value[0] + " modulo 7", onlyValue(value[0]), value[1]);
        }
    }

    /** What A holds at its one place, modulo 7, read from the row: number 1 by number 0. */
    private static int onlyValue(int value) {
        KrylovDesk x = new KrylovDesk(7, 1, 2);
        x.entry(0, 0, value);
        x.side(0, 1);
        x.attempt();
        for (int a = 0; a < 7; a++) {
            if (a * x.number(0) % 7 == x.number(1)) {
                return a;
            }
        }
        return -1;
    }

    private static void promise2Forgets() {
        KrylovDesk x = pair();
        x.solve(5);
        x.entry(2, 0, 1);
        x.side(-1, 1);
        checkKnown("2: a refused entry or side changes nothing", x, true);
        x.entry(0, 0, 0);
        checkKnown("2: an entry, even of 0", x, false);
        x.solve(5);
        checkKnown("2: solved again", x, true);
        x.side(0, 3);
        checkKnown("3: a number of b, even the same", x, false);

        KrylovDesk y = coin();
        y.solve(5);
        CHECKS.due("2: no room", y.entry(0, 0, 1), 2);
        checkKnown("2: an entry without room", y, true);
    }

    private static void checkKnown(String when, KrylovDesk x, boolean known) {
        CHECKS.due(when + ": solution", x.solution(0) != KrylovDesk.BAD, known);
        CHECKS.due(when + ": degree", x.degree() != KrylovDesk.BAD, known);
        CHECKS.due(when + ": coefficient", x.coefficient(0) != KrylovDesk.BAD, known);
        CHECKS.due(when + ": number", x.number(0) != KrylovDesk.BAD, known);
        CHECKS.due(when + ": verify", x.verify(), known);
    }

    private static void promise3() {
        KrylovDesk x = new KrylovDesk(101, 2, 2);
        x.entry(0, 0, 1);
        x.entry(1, 1, 1);
        for (int far : EXTREMES) {
            CHECKS.due("3: no such row", x.side(far, 1), 1);
        }
        CHECKS.due("3: one behind the last", x.side(2, 1), 1);
        int[][] values = {
            {5, 5}, {-1, 100}, {101, 0}, {102, 1}, {Integer.MIN_VALUE, 67}, {Integer.MAX_VALUE, 33}
        };
        for (int[] value : values) {
            CHECKS.due("3: side", x.side(1, value[0]), 0);
            CHECKS.due("3: solved", x.solve(50), KrylovDesk.SOLVED);
            CHECKS.due("3: the unit matrix gives b back", x.solution(1), value[1]);
            CHECKS.due("3: the other number of b stays", x.solution(0), 0);
        }
    }

    private static void promise4() {
        KrylovDesk x = pair();
        int[][] seeds = {
            {0, 0}, {5, 5}, {-1, Integer.MAX_VALUE}, {Integer.MIN_VALUE, 0}, {Integer.MIN_VALUE + 7, 7},
            {Integer.MAX_VALUE, Integer.MAX_VALUE}
        };
        x.solve(5);
        for (int[] seed : seeds) {
            x.seed(seed[0]);
            CHECKS.due("4: the generator's number", x.count(3), seed[1]);
        }
        checkKnown("4: seed leaves the results", x, true);
        KrylovDesk y = new KrylovDesk(46337, 1, 1);
        y.side(0, 1);
        y.seed(0);
        y.attempt();
        CHECKS.due("4: the number after 0", y.count(3), 12345);
        CHECKS.due("4: its draw", y.number(0), 0);
        y.seed(1);
        y.attempt();
        CHECKS.due("4: the number after 1", y.count(3), 1103527590);
        CHECKS.due("4: its draw", y.number(0), 16838);
    }

    private static void promise5Solved() {
        KrylovDesk x = pair();
        CHECKS.due("5: attempt", x.attempt(), KrylovDesk.SOLVED);
        CHECKS.due("5: solution 0", x.solution(0), 1);
        CHECKS.due("5: solution 1", x.solution(1), 2);
        // A b is 7, 8; A A b is 15, 16; A A A b is 31, 32.
        CHECKS.due("5: number 0", x.number(0), (3 * DRAWS[0] + 4 * DRAWS[1]) % 46337);
        CHECKS.due("5: number 1", x.number(1), (7 * DRAWS[0] + 8 * DRAWS[1]) % 46337);
        CHECKS.due("5: number 2", x.number(2), (15 * DRAWS[0] + 16 * DRAWS[1]) % 46337);
        CHECKS.due("5: number 3", x.number(3), (31 * DRAWS[0] + 32 * DRAWS[1]) % 46337);
        CHECKS.due("5: attempts", x.count(4), 1);

        KrylovDesk y = new KrylovDesk(97, 10, 10);
        y.side(9, 1);
        y.attempt();
        CHECKS.due("5: the tenth draw, modulo P", y.number(0), DRAWS[9] % 97);
    }

    private static void promise5Constant() {
        KrylovDesk x = new KrylovDesk(46337, 3, 5);
        x.side(1, 1);
        CHECKS.due("5: no entries, b not 0", x.attempt(), KrylovDesk.CONSTANT);
        CHECKS.due("5: the row is kept", x.number(0), DRAWS[1]);
        CHECKS.due("5: and is 0 from then on", x.number(1), 0);
        CHECKS.due("5: degree", x.degree(), 1);
        CHECKS.due("5: coefficient 0", x.coefficient(0), 0);
        CHECKS.due("5: coefficient 1", x.coefficient(1), 1);
        CHECKS.due("5: no solution", x.solution(0), KrylovDesk.BAD);
        CHECKS.due("5: no product but the row's", x.products(), 5);
        CHECKS.due("5: nothing to verify", x.verify(), false);

        // A takes place 1 to place 0, and place 0 to nothing: the polynomial is x^2.
        KrylovDesk y = new KrylovDesk(46337, 2, 5);
        y.entry(0, 1, 1);
        y.side(1, 1);
        CHECKS.due("5: A A is 0", y.attempt(), KrylovDesk.CONSTANT);
        CHECKS.due("5: degree", y.degree(), 2);
        CHECKS.due("5: coefficient 0", y.coefficient(0), 0);
        CHECKS.due("5: coefficient 1", y.coefficient(1), 0);
        CHECKS.due("5: coefficient 2", y.coefficient(2), 1);
        CHECKS.due("5: products", y.products(), 3);
    }

    private static void promise5Wrong() {
        KrylovDesk x = coin();
        for (int i = 0; i < DRAWS.length; i++) {
            boolean solved = DRAWS[i] % 2 == 1;
            CHECKS.due("5: coin " + i, x.attempt(), solved ? KrylovDesk.SOLVED : KrylovDesk.WRONG);
            CHECKS.due("5: coin's solution " + i, x.solution(0), solved ? 1 : KrylovDesk.BAD);
            CHECKS.due("5: coin's degree " + i, x.degree(), solved ? 1 : 0);
            CHECKS.due("5: coin's polynomial " + i, x.coefficient(0), 1);
            CHECKS.due("5: coin's row " + i, x.number(1), solved ? 1 : 0);
            CHECKS.due("5: coin's products " + i, x.products(), 2 * (i + 1));
            CHECKS.due("5: coin's attempts " + i, x.count(4), i + 1);
        }
    }

    /** A turns all places round by one, so b comes back after n products: x^n - 1. */
    private static void promise5OddDegrees() {
        KrylovDesk x = new KrylovDesk(46337, 16, 16);
        for (int i = 0; i < 16; i++) {
            x.entry((i + 1) % 16, i, 1);
        }
        x.side(0, 1);
        CHECKS.due("5: turn", x.attempt(), KrylovDesk.SOLVED);
        CHECKS.due("5: turn's degree", x.degree(), 16);
        CHECKS.due("5: turn's constant", x.coefficient(0), 46336);
        for (int i = 1; i < 16; i++) {
            CHECKS.due("5: turn's coefficient " + i, x.coefficient(i), 0);
            CHECKS.due("5: turn's solution " + i, x.solution(i), i == 15 ? 1 : 0);
        }
        CHECKS.due("5: turn's head", x.coefficient(16), 1);
        CHECKS.due("5: turn's products", x.products(), 31 + 15 + 1);
    }

    private static void promise6() {
        KrylovDesk x = coin();
        int[] none = {Integer.MIN_VALUE, -1, 0, 51, 52, Integer.MAX_VALUE};
        for (int most : none) {
            CHECKS.due("6: solve(" + most + ")", x.solve(most), KrylovDesk.NONE);
        }
        CHECKS.due("6: no attempt was made", x.count(4), 0);
        CHECKS.due("6: no draw was made", x.count(3), 1);
        CHECKS.due("6: two draws are even", x.solve(2), KrylovDesk.WRONG);
        CHECKS.due("6: attempts", x.count(4), 2);
        CHECKS.due("6: the third is odd", x.solve(50), KrylovDesk.SOLVED);
        CHECKS.due("6: attempts", x.count(4), 3);
        CHECKS.due("6: a solution does not spare the attempt", x.solve(1), KrylovDesk.SOLVED);
        CHECKS.due("6: attempts", x.count(4), 4);
        x.solve(0);
        checkKnown("6: NONE changes nothing", x, true);

        KrylovDesk y = new KrylovDesk(46337, 1, 1);
        y.side(0, 1);
        CHECKS.due("6: all fifty fail", y.solve(50), KrylovDesk.CONSTANT);
        CHECKS.due("6: attempts", y.count(4), 50);
        CHECKS.due("6: solve(1)", y.solve(1), KrylovDesk.CONSTANT);
        CHECKS.due("6: attempts", y.count(4), 51);
    }

    private static void promise7() {
        KrylovDesk x = pair();
        CHECKS.due("7: none yet", x.solution(0), KrylovDesk.BAD);
        x.attempt();
        CHECKS.due("7: the last", x.solution(1), 2);
        CHECKS.due("7: behind the last", x.solution(2), KrylovDesk.BAD);
        for (int far : EXTREMES) {
            CHECKS.due("7: none such", x.solution(far), KrylovDesk.BAD);
        }
        KrylovDesk y = coin();
        y.solve(50);
        CHECKS.due("7: solved", y.solution(0), 1);
        y.seed(1);
        CHECKS.due("7: an even draw", y.attempt(), KrylovDesk.WRONG);
        CHECKS.due("7: then there is none", y.solution(0), KrylovDesk.BAD);
    }

    private static void promise8And9() {
        KrylovDesk x = pair();
        CHECKS.due("8: none yet", x.degree(), KrylovDesk.BAD);
        CHECKS.due("9: none yet", x.coefficient(0), KrylovDesk.BAD);
        x.attempt();
        // A has 1 and 2 on its diagonal: (x - 1) (x - 2).
        CHECKS.due("8: degree", x.degree(), 2);
        CHECKS.due("9: coefficient 0", x.coefficient(0), 2);
        CHECKS.due("9: coefficient 1", x.coefficient(1), 46334);
        CHECKS.due("9: coefficient 2", x.coefficient(2), 1);
        CHECKS.due("9: behind the last", x.coefficient(3), KrylovDesk.BAD);
        for (int far : EXTREMES) {
            CHECKS.due("9: none such", x.coefficient(far), KrylovDesk.BAD);
        }
        x.side(0, 0);
        x.side(1, 0);
        x.attempt();
        CHECKS.due("8: a row of 0", x.degree(), 0);
        CHECKS.due("9: its polynomial is 1", x.coefficient(0), 1);
        CHECKS.due("9: none such", x.coefficient(1), KrylovDesk.BAD);
    }

    private static void promise10() {
        KrylovDesk x = new KrylovDesk(46337, 16, 1);
        CHECKS.due("10: none yet", x.number(0), KrylovDesk.BAD);
        x.entry(0, 0, -1);
        x.side(0, 2);
        x.attempt();
        for (int i = 0; i < 32; i++) {
            int want = 2 * DRAWS[0] % 46337;
            CHECKS.due("10: number " + i, x.number(i), i % 2 == 0 ? want : 46337 - want);
        }
        CHECKS.due("10: behind the last", x.number(32), KrylovDesk.BAD);
        for (int far : EXTREMES) {
            CHECKS.due("10: none such", x.number(far), KrylovDesk.BAD);
        }
        x.attempt();
        x.seed(0);
        x.attempt();
        CHECKS.due("10: the last row alone", x.number(0), 0);
    }

    private static void promise11() {
        KrylovDesk x = pair();
        CHECKS.due("11: none yet", x.verify(), false);
        CHECKS.due("11: no product without a solution", x.products(), 0);
        x.attempt();
        int before = x.products();
        CHECKS.due("11: verify", x.verify(), true);
        CHECKS.due("11: a product", x.products(), before + 1);
        CHECKS.due("11: verify again", x.verify(), true);
        CHECKS.due("11: a product more", x.products(), before + 2);
        CHECKS.due("11: the solution stays", x.solution(1), 2);
        x.side(0, 1);
        CHECKS.due("11: the solution is gone", x.verify(), false);
        CHECKS.due("11: no product", x.products(), before + 2);
    }

    private static void promise12() {
        KrylovDesk x = pair();
        CHECKS.due("12: none yet", x.products(), 0);
        x.attempt();
        CHECKS.due("12: 3 for the row, 1 for the candidate, 1 for the check", x.products(), 5);
        x.entry(0, 0, 1);
        x.side(0, 0);
        x.side(1, 0);
        CHECKS.due("12: kept by entry and side", x.products(), 5);
        x.attempt();
        CHECKS.due("12: 3 for the row, 1 for the check", x.products(), 9);
    }

    private static void promise13() {
        KrylovDesk x = new KrylovDesk(98, 5, 9);
        x.entry(0, 0, 1);
        x.entry(0, 0, 1);
        x.entry(4, 4, 3);
        x.side(0, 4);
        x.seed(1);
        x.attempt();
        x.solve(1);
        CHECKS.due("13: P", x.count(0), 101);
        CHECKS.due("13: n", x.count(1), 5);
        CHECKS.due("13: entries", x.count(2), 3);
        CHECKS.due("13: the tenth draw", x.count(3) / 65536, DRAWS[9]);
        CHECKS.due("13: attempts", x.count(4), 2);
        CHECKS.due("13: count(5)", x.count(5), KrylovDesk.BAD);
        for (int far : EXTREMES) {
            CHECKS.due("13: another number", x.count(far), KrylovDesk.BAD);
        }
    }
}
