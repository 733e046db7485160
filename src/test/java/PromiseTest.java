/**
 * Each promise by its number, on ordinary inputs, with answers worked out by hand. The boundary cases have
 * tests of their own in TermsTest and BoundaryTest.
 */
public final class PromiseTest {
    private static final Checks CHECKS = new Checks();

    public static void main(String[] args) {
        CHECKS.runAll(PromiseTest.class);
        CHECKS.end();
    }

    /** 2 x0 + x1 = 7, 3 x1 - x2 = 0, 5 x2 - x0 = 12, modulo 101: the solution is 3, 1, 3. */
    private static KrylovDesk triple() {
        KrylovDesk x = new KrylovDesk(98, 3, 8);
        x.entry(0, 0, 2);
        x.entry(0, 1, 1);
        x.entry(1, 1, 3);
        x.entry(1, 2, -1);
        x.entry(2, 2, 5);
        x.entry(2, 0, -1);
        x.side(0, 7);
        x.side(1, 0);
        x.side(2, 12);
        return x;
    }

    static void promise1() {
        KrylovDesk x = new KrylovDesk(98, 5, 9);
        CHECKS.due("P", x.count(0), 101);
        CHECKS.due("n", x.count(1), 5);
        CHECKS.due("entries", x.count(2), 0);
        CHECKS.due("the generator's number", x.count(3), 1);
        CHECKS.due("attempts", x.count(4), 0);
        CHECKS.due("products", x.products(), 0);
    }

    static void promise2() {
        KrylovDesk x = new KrylovDesk(46337, 2, 4);
        CHECKS.due("first", x.entry(0, 0, 3), 0);
        CHECKS.due("second", x.entry(1, 0, 5), 0);
        CHECKS.due("third", x.entry(0, 0, -1), 0);
        CHECKS.due("entries", x.count(2), 3);
        x.side(0, 1);
        x.attempt();
        // A b is 2, 5.
        CHECKS.due("number 1", x.number(1), (2 * Desks.DRAWS[0] + 5 * Desks.DRAWS[1]) % 46337);
    }

    static void promise3() {
        KrylovDesk x = new KrylovDesk(46337, 2, 4);
        CHECKS.due("first", x.side(0, 3), 0);
        CHECKS.due("second", x.side(1, -4), 0);
        x.attempt();
        CHECKS.due("number 0", x.number(0), (3 * Desks.DRAWS[0] - 4 * Desks.DRAWS[1]) % 46337);
    }

    static void promise4() {
        KrylovDesk x = new KrylovDesk(46337, 1, 1);
        x.side(0, 1);
        x.seed(1103527590);
        CHECKS.due("the generator's number", x.count(3), 1103527590);
        x.attempt();
        CHECKS.due("the draw", x.number(0), Desks.DRAWS[1]);
    }

    static void promise5() {
        KrylovDesk x = Desks.pair();
        CHECKS.due("attempt", x.attempt(), KrylovDesk.SOLVED);
        CHECKS.due("solution 0", x.solution(0), 1);
        CHECKS.due("solution 1", x.solution(1), 2);

        KrylovDesk y = new KrylovDesk(46337, 3, 5);
        y.entry(0, 1, 1);
        y.side(1, 1);
        CHECKS.due("A A is 0", y.attempt(), KrylovDesk.CONSTANT);

        KrylovDesk z = Desks.coin();
        CHECKS.due("an even draw", z.attempt(), KrylovDesk.WRONG);
    }

    static void promise6() {
        KrylovDesk x = Desks.coin();
        CHECKS.due("two draws are even", x.solve(2), KrylovDesk.WRONG);
        CHECKS.due("the third is odd", x.solve(10), KrylovDesk.SOLVED);
        CHECKS.due("attempts", x.count(4), 3);
    }

    static void promise7() {
        KrylovDesk x = triple();
        CHECKS.due("solve", x.solve(10), KrylovDesk.SOLVED);
        CHECKS.due("solution 0", x.solution(0), 3);
        CHECKS.due("solution 1", x.solution(1), 1);
        CHECKS.due("solution 2", x.solution(2), 3);
    }

    /** The example of README.md, line by line. */
    static void promise7ExampleOfTheReadme() {
        KrylovDesk desk = new KrylovDesk(100, 2, 10);
        desk.entry(0, 0, 1);
        desk.entry(0, 1, 1);
        desk.side(0, 3);
        desk.entry(1, 1, 2);
        desk.side(1, 4);
        CHECKS.due("P", desk.count(0), 101);
        CHECKS.due("solve", desk.solve(50), KrylovDesk.SOLVED);
        CHECKS.due("x0", desk.solution(0), 1);
        CHECKS.due("x1", desk.solution(1), 2);
    }

    static void promise8And9() {
        KrylovDesk x = triple();
        x.attempt();
        // The determinant of x - A: (x - 2) (x - 3) (x - 5) - 1.
        CHECKS.due("degree", x.degree(), 3);
        CHECKS.due("coefficient 0", x.coefficient(0), 101 - 31);
        CHECKS.due("coefficient 1", x.coefficient(1), 31);
        CHECKS.due("coefficient 2", x.coefficient(2), 101 - 10);
        CHECKS.due("coefficient 3", x.coefficient(3), 1);
    }

    static void promise10() {
        KrylovDesk x = Desks.pair();
        x.attempt();
        // b is 3, 4; A b is 7, 8; A A b is 15, 16; A A A b is 31, 32.
        for (int i = 0; i < 4; i++) {
            int second = 4 << i;
            int want = ((second - 1) * Desks.DRAWS[0] + second * Desks.DRAWS[1]) % 46337;
            CHECKS.due("number " + i, x.number(i), want);
        }
    }

    static void promise11() {
        KrylovDesk x = triple();
        x.attempt();
        CHECKS.due("verify", x.verify(), true);
        x.side(0, 1);
        CHECKS.due("verify without a solution", x.verify(), false);
    }

    static void promise12() {
        KrylovDesk x = triple();
        x.attempt();
        CHECKS.due("5 for the row, 2 for the candidate, 1 for the check", x.products(), 8);
        x.verify();
        CHECKS.due("1 more", x.products(), 9);
    }

    static void promise13() {
        KrylovDesk x = triple();
        x.attempt();
        x.solve(1);
        CHECKS.due("P", x.count(0), 101);
        CHECKS.due("n", x.count(1), 3);
        CHECKS.due("entries", x.count(2), 6);
        CHECKS.due("the sixth draw", x.count(3) / 65536, Desks.DRAWS[5]);
        CHECKS.due("attempts", x.count(4), 2);
    }
}
