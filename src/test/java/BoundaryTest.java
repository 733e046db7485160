import java.math.BigInteger;

/**
 * The boundary cases of promises 1 to 13: a test for each, with the promise's number in its name and the
 * words that it holds the class to. TermsTest has those of the document's "Terms".
 */
public final class BoundaryTest {
    private static final Checks CHECKS = new Checks();
    private static final int BAD = KrylovDesk.BAD;

    public static void main(String[] args) {
        CHECKS.runAll(BoundaryTest.class);
        CHECKS.end();
    }

    private static int prime(int p) {
        return new KrylovDesk(p, 1, 1).count(0);
    }

    private static int size(int n) {
        return new KrylovDesk(7, n, 1).count(1);
    }

    /** How many entries an object takes, whose room was asked for with this number. */
    private static int room(int entries) {
        KrylovDesk x = new KrylovDesk(7, 3, entries);
        int taken = 0;
        for (int i = 0; i < 150; i++) {
            if (x.entry(2, 1, 1) == 0) {
                taken++;
            }
        }
        return taken;
    }

    /** What one entry of this value makes of A, 1 by 1 modulo p: b being 1, number 1 is it times number 0. */
    private static void checkEntryValue(int p, int value, int want) {
        KrylovDesk x = new KrylovDesk(p, 1, 1);
        CHECKS.due("entry", x.entry(0, 0, value), 0);
        x.side(0, 1);
        x.seed(Desks.before(65536));
        x.attempt();
        CHECKS.due("number 0", x.number(0), 1);
        CHECKS.due("value " + value + " modulo " + p, x.number(1), want);
    }

    /** What side() makes of a value: the number 0 of the row, u being 1. */
    private static void checkSideValue(int p, int value, int want) {
        KrylovDesk x = new KrylovDesk(p, 1, 1);
        CHECKS.due("side", x.side(0, value), 0);
        x.seed(Desks.before(65536));
        x.attempt();
        CHECKS.due("value " + value + " modulo " + p, x.number(0), want);
    }

    private static void checkHasRow(String when, KrylovDesk x, boolean has) {
        CHECKS.due(when + ": degree", x.degree() != BAD, has);
        CHECKS.due(when + ": coefficient", x.coefficient(0) != BAD, has);
        CHECKS.due(when + ": number", x.number(0) != BAD, has);
    }

    private static void checkHasSolution(String when, KrylovDesk x, boolean has) {
        CHECKS.due(when + ": solution", x.solution(0) != BAD, has);
        CHECKS.due(when + ": verify", x.verify(), has);
    }

    // Promise 1: A new object

    /** "P is the least prime not below p (2 .., brought within)". */
    static void promise1TooSmallP() {
        for (int p : new int[] {Integer.MIN_VALUE, -46337, -1, 0, 1, 2}) {
            CHECKS.due("P of " + p, prime(p), 2);
        }
    }

    /** "(.. 46,337, brought within)". */
    static void promise1TooLargeP() {
        for (int p : new int[] {46337, 46338, 46349, 65537, Integer.MAX_VALUE}) {
            CHECKS.due("P of " + p, prime(p), 46337);
        }
    }

    /** "the least prime not below p": p itself if it is one, for every p within. */
    static void promise1LeastPrimeNotBelowP() {
        int want = 46337;
        for (int p = 46337; p >= 2; p--) {
            want = BigInteger.valueOf(p).isProbablePrime(50) ? p : want;
            CHECKS.due("P of " + p, prime(p), want);
        }
    }

    /** "n 1 .. 16", brought within. */
    static void promise1TooSmallN() {
        for (int n : new int[] {Integer.MIN_VALUE, -16, -1, 0, 1}) {
            CHECKS.due("n of " + n, size(n), 1);
        }
        KrylovDesk x = new KrylovDesk(7, 0, 2);
        CHECKS.due("the one place", x.entry(0, 0, 1), 0);
        CHECKS.due("none behind it", x.entry(0, 1, 1), 1);
        CHECKS.due("its number of b", x.side(0, 1), 0);
        x.attempt();
        CHECKS.due("the row's last", x.number(1) != BAD, true);
        CHECKS.due("none behind it", x.number(2), BAD);
    }

    /** "n 1 .. 16", brought within. */
    static void promise1TooLargeN() {
        for (int n : new int[] {16, 17, 100, Integer.MAX_VALUE}) {
            CHECKS.due("n of " + n, size(n), 16);
        }
        CHECKS.due("n of 15", size(15), 15);
        KrylovDesk x = new KrylovDesk(7, 17, 2);
        CHECKS.due("the last place", x.entry(15, 15, 1), 0);
        CHECKS.due("none behind it", x.entry(16, 15, 1), 1);
        CHECKS.due("the last number of b", x.side(15, 1), 0);
        CHECKS.due("none behind it", x.side(16, 1), 1);
        x.attempt();
        CHECKS.due("the row's last", x.number(31) != BAD, true);
        CHECKS.due("none behind it", x.number(32), BAD);
    }

    /** "at most so many entries (1 .. 100)", brought within: one at least. */
    static void promise1TooSmallRoom() {
        for (int entries : new int[] {Integer.MIN_VALUE, -100, -1, 0, 1}) {
            CHECKS.due("room of " + entries, room(entries), 1);
        }
    }

    /** "at most so many entries (1 .. 100)", brought within: a hundred at most. */
    static void promise1TooLargeRoom() {
        for (int entries : new int[] {100, 101, 256, Integer.MAX_VALUE}) {
            CHECKS.due("room of " + entries, room(entries), 100);
        }
    }

    /** "at most so many entries": just so many where the number is within, whatever n is. */
    static void promise1RoomWithin() {
        for (int entries = 1; entries <= 100; entries++) {
            CHECKS.due("room of " + entries, room(entries), entries);
        }
    }

    /** "No entries": none are counted, and A is 0. */
    static void promise1NoEntries() {
        KrylovDesk x = new KrylovDesk(46337, 3, 5);
        CHECKS.due("entries", x.count(2), 0);
        x.side(0, 1);
        CHECKS.due("A b is 0", x.attempt(), KrylovDesk.CONSTANT);
        CHECKS.due("number 1", x.number(1), 0);
    }

    /** "b is 0": the row is 0, and 0 solves, whatever A is. */
    static void promise1BIs0() {
        KrylovDesk x = new KrylovDesk(46337, 3, 5);
        x.entry(0, 1, 4);
        CHECKS.due("attempt", x.attempt(), KrylovDesk.SOLVED);
        for (int i = 0; i < 6; i++) {
            CHECKS.due("number " + i, x.number(i), 0);
        }
    }

    /** A new object has no solution, polynomial or row, and nothing was done in it. */
    static void promise1NothingYet() {
        KrylovDesk x = new KrylovDesk(46337, 3, 5);
        checkHasRow("new", x, false);
        checkHasSolution("new", x, false);
        CHECKS.due("attempts", x.count(4), 0);
        CHECKS.due("products", x.products(), 0);
    }

    /** Each object has its own entries, b and generator. */
    static void promise1ObjectsAreApart() {
        KrylovDesk x = Desks.pair();
        KrylovDesk y = new KrylovDesk(46337, 2, 10);
        x.attempt();
        CHECKS.due("entries", y.count(2), 0);
        CHECKS.due("generator", y.count(3), 1);
        CHECKS.due("attempts", y.count(4), 0);
        CHECKS.due("products", y.products(), 0);
        checkHasRow("the other one", y, false);
        checkHasSolution("the other one", y, false);
    }

    // Promise 2: entry

    /** "its value modulo P (0 .. P - 1 ..)": at P and above it. */
    static void promise2ValueOfPAndAbove() {
        checkEntryValue(46337, 46336, 46336);
        checkEntryValue(46337, 46337, 0);
        checkEntryValue(46337, 46338, 1);
        checkEntryValue(46337, Integer.MAX_VALUE, Integer.MAX_VALUE % 46337);
        checkEntryValue(2, 2, 0);
        checkEntryValue(2, 3, 1);
        checkEntryValue(2, Integer.MAX_VALUE, 1);
    }

    /** "also of values below 0". */
    static void promise2ValueBelow0() {
        checkEntryValue(46337, -1, 46336);
        checkEntryValue(46337, -46336, 1);
        checkEntryValue(46337, -46337, 0);
        checkEntryValue(46337, -46338, 46336);
        checkEntryValue(7, Integer.MIN_VALUE, 5);
        checkEntryValue(2, -1, 1);
        checkEntryValue(2, Integer.MIN_VALUE, 0);
    }

    /** "One more entry": one of value 0 is one too, and takes its room. */
    static void promise2ValueOf0TakesRoom() {
        KrylovDesk x = new KrylovDesk(7, 2, 2);
        CHECKS.due("0", x.entry(0, 0, 0), 0);
        CHECKS.due("7, which is 0", x.entry(0, 1, 7), 0);
        CHECKS.due("entries", x.count(2), 2);
        CHECKS.due("no room", x.entry(1, 1, 1), 2);
    }

    /** "One more entry": one at a place that has one is one more too. */
    static void promise2SamePlaceTakesRoom() {
        KrylovDesk x = new KrylovDesk(7, 2, 2);
        CHECKS.due("first", x.entry(1, 1, 3), 0);
        CHECKS.due("second", x.entry(1, 1, 3), 0);
        CHECKS.due("entries", x.count(2), 2);
        CHECKS.due("no room", x.entry(1, 1, 3), 2);
    }

    /** "1 there is no such place": the row. */
    static void promise2NoSuchRow() {
        for (int n = 1; n <= 16; n++) {
            KrylovDesk x = new KrylovDesk(7, n, 1);
            CHECKS.due("row " + n, x.entry(n, 0, 1), 1);
            for (int far : Desks.FAR) {
                CHECKS.due("row " + far, x.entry(far, n - 1, 1), 1);
            }
            CHECKS.due("the last row", x.entry(n - 1, 0, 1), 0);
        }
    }

    /** "1 there is no such place": the column. */
    static void promise2NoSuchColumn() {
        for (int n = 1; n <= 16; n++) {
            KrylovDesk x = new KrylovDesk(7, n, 1);
            CHECKS.due("column " + n, x.entry(0, n, 1), 1);
            for (int far : Desks.FAR) {
                CHECKS.due("column " + far, x.entry(n - 1, far, 1), 1);
            }
            CHECKS.due("the last column", x.entry(0, n - 1, 1), 0);
        }
    }

    /** "1 there is no such place": it is no entry, takes no room and leaves A as it was. */
    static void promise2NoSuchPlaceAddsNothing() {
        KrylovDesk x = new KrylovDesk(46337, 1, 1);
        for (int far : Desks.FAR) {
            x.entry(far, 0, 9);
            x.entry(0, far, 9);
        }
        CHECKS.due("entries", x.count(2), 0);
        CHECKS.due("there is room", x.entry(0, 0, 2), 0);
        x.entry(1, 0, 9);
        x.side(0, 1);
        x.attempt();
        CHECKS.due("A is 2", x.number(1), 2 * Desks.DRAWS[0]);
    }

    /** "2 no room": after the last entry that there is room for, and from then on. */
    static void promise2NoRoom() {
        for (int entries : new int[] {1, 2, 99, 100}) {
            KrylovDesk x = new KrylovDesk(7, 16, entries);
            for (int i = 0; i < entries; i++) {
                CHECKS.due("entry " + i, x.entry(i % 16, i / 16, 1), 0);
            }
            for (int i = 0; i < 3; i++) {
                CHECKS.due("behind entry " + entries, x.entry(15, 15, 1), 2);
            }
            CHECKS.due("entries", x.count(2), entries);
        }
    }

    /** "2 no room": A is as it was. */
    static void promise2NoRoomAddsNothing() {
        KrylovDesk x = new KrylovDesk(46337, 1, 1);
        x.entry(0, 0, 2);
        CHECKS.due("no room", x.entry(0, 0, 9), 2);
        x.side(0, 1);
        x.attempt();
        CHECKS.due("A is 2", x.number(1), 2 * Desks.DRAWS[0]);
    }

    /** "1 there is no such place; 2 no room": where both are so, what the document tells first. */
    static void promise2NoPlaceComesBeforeNoRoom() {
        KrylovDesk x = new KrylovDesk(7, 2, 1);
        x.entry(0, 0, 1);
        CHECKS.due("row", x.entry(2, 0, 1), 1);
        CHECKS.due("column", x.entry(0, -1, 1), 1);
        CHECKS.due("neither", x.entry(1, 1, 1), 2);
    }

    /** "The solution, the polynomial and the row are gone": after SOLVED, by a value of 0 too. */
    static void promise2GoneAfterSolved() {
        KrylovDesk x = Desks.pair();
        CHECKS.due("attempt", x.attempt(), KrylovDesk.SOLVED);
        checkHasRow("before", x, true);
        checkHasSolution("before", x, true);
        x.entry(0, 0, 0);
        checkHasRow("after", x, false);
        checkHasSolution("after", x, false);
    }

    /** "the polynomial and the row are gone": after CONSTANT and after WRONG. */
    static void promise2GoneAfterNoSolution() {
        for (int draw = 0; draw < 2; draw++) {
            KrylovDesk x = Desks.blankCoin();
            x.seed(Desks.seedFor(2, draw));
            CHECKS.due("attempt", x.attempt(), draw == 1 ? KrylovDesk.CONSTANT : KrylovDesk.WRONG);
            checkHasRow("before", x, true);
            x.entry(0, 0, 1);
            checkHasRow("after", x, false);
        }
    }

    /** "are gone": these three alone; the generator, the attempts and the products stay. */
    static void promise2LeavesTheRest() {
        KrylovDesk x = Desks.pair();
        x.attempt();
        int number = x.count(3);
        x.entry(0, 0, 1);
        x.side(0, 5);
        CHECKS.due("the generator's number", x.count(3), number);
        CHECKS.due("attempts", x.count(4), 1);
        CHECKS.due("products", x.products(), 5);
    }

    /** A refused entry is no "more entry": the solution, the polynomial and the row stay. */
    static void promise2RefusedLeavesTheResults() {
        KrylovDesk x = Desks.coin();
        x.solve(50);
        CHECKS.due("no such place", x.entry(1, 0, 1), 1);
        checkHasRow("no such place", x, true);
        checkHasSolution("no such place", x, true);
        CHECKS.due("no room", x.entry(0, 0, 1), 2);
        checkHasRow("no room", x, true);
        checkHasSolution("no room", x, true);
    }

    // Promise 3: side

    /** "A number of b, modulo P": at P and above it. */
    static void promise3ValueOfPAndAbove() {
        checkSideValue(46337, 46336, 46336);
        checkSideValue(46337, 46337, 0);
        checkSideValue(46337, 46338, 1);
        checkSideValue(46337, Integer.MAX_VALUE, Integer.MAX_VALUE % 46337);
        checkSideValue(2, Integer.MAX_VALUE, 1);
    }

    /** "A number of b, modulo P": below 0. */
    static void promise3ValueBelow0() {
        checkSideValue(46337, -1, 46336);
        checkSideValue(46337, -46337, 0);
        checkSideValue(46337, -46338, 46336);
        checkSideValue(7, Integer.MIN_VALUE, 5);
        checkSideValue(2, -1, 1);
    }

    /** "A number of b": the last one told is the number, they do not add up as entries do. */
    static void promise3LaterNumberReplaces() {
        KrylovDesk x = new KrylovDesk(46337, 1, 1);
        x.side(0, 5);
        x.side(0, 2);
        x.attempt();
        CHECKS.due("2 times the draw", x.number(0), 2 * Desks.DRAWS[0]);
        x.side(0, 0);
        x.attempt();
        CHECKS.due("0 times the draw", x.number(0), 0);
    }

    /** "1 none such": b is as it was. */
    static void promise3NoneSuch() {
        for (int n = 1; n <= 16; n++) {
            KrylovDesk x = new KrylovDesk(7, n, 1);
            CHECKS.due("behind the last of " + n, x.side(n, 1), 1);
            for (int far : Desks.FAR) {
                CHECKS.due("side " + far, x.side(far, 1), 1);
            }
            CHECKS.due("attempt", x.attempt(), KrylovDesk.SOLVED);
            CHECKS.due("b is 0", x.degree(), 0);
            CHECKS.due("the last of " + n, x.side(n - 1, 1), 0);
        }
    }

    /** "The solution, the polynomial and the row are gone (so with side())": by the same number too. */
    static void promise3GoneAfterSolved() {
        KrylovDesk x = Desks.pair();
        x.attempt();
        checkHasRow("before", x, true);
        checkHasSolution("before", x, true);
        x.side(0, 3);
        checkHasRow("after", x, false);
        checkHasSolution("after", x, false);
    }

    /** "(so with side())": after CONSTANT and after WRONG. */
    static void promise3GoneAfterNoSolution() {
        for (int draw = 0; draw < 2; draw++) {
            KrylovDesk x = Desks.blankCoin();
            x.seed(Desks.seedFor(2, draw));
            CHECKS.due("attempt", x.attempt(), draw == 1 ? KrylovDesk.CONSTANT : KrylovDesk.WRONG);
            checkHasRow("before", x, true);
            x.side(0, 1);
            checkHasRow("after", x, false);
        }
    }

    /** "1 none such": the solution, the polynomial and the row stay. */
    static void promise3RefusedLeavesTheResults() {
        KrylovDesk x = Desks.pair();
        x.attempt();
        for (int far : Desks.FAR) {
            CHECKS.due("none such", x.side(far, 1), 1);
        }
        checkHasRow("none such", x, true);
        checkHasSolution("none such", x, true);
    }

    // Promise 4: seed

    /** "the lower 31 bits of this": of numbers below 0. */
    static void promise4SeedBelow0() {
        int[][] seeds = {
            {-1, Integer.MAX_VALUE}, {-2, Integer.MAX_VALUE - 1}, {Integer.MIN_VALUE, 0}, {Integer.MIN_VALUE + 1, 1}
        };
        for (int[] seed : seeds) {
            KrylovDesk x = new KrylovDesk(7, 1, 1);
            x.seed(seed[0]);
            CHECKS.due("seed(" + seed[0] + ")", x.count(3), seed[1]);
        }
    }

    /** "The generator's number becomes .. this": of numbers that have no more than 31 bits, 0 and the greatest too. */
    static void promise4SeedWithin() {
        for (int seed : new int[] {0, 1, 65536, Integer.MAX_VALUE - 1, Integer.MAX_VALUE}) {
            KrylovDesk x = new KrylovDesk(7, 1, 1);
            x.seed(seed);
            CHECKS.due("seed(" + seed + ")", x.count(3), seed);
        }
    }

    /** "The generator's number becomes": it is no draw, and the next draw goes on from it. */
    static void promise4SeedStartsTheDrawsAgain() {
        KrylovDesk x = new KrylovDesk(46337, 1, 1);
        x.side(0, 1);
        for (int i = 0; i < 3; i++) {
            x.seed(1);
            x.attempt();
            CHECKS.due("the first draw", x.number(0), Desks.DRAWS[0]);
        }
        x.attempt();
        CHECKS.due("the second draw", x.number(0), Desks.DRAWS[1]);
    }

    /** seed() takes nothing away: the document names entry() and side() alone. */
    static void promise4SeedLeavesTheResults() {
        KrylovDesk x = Desks.pair();
        x.attempt();
        x.seed(-1);
        checkHasRow("after", x, true);
        checkHasSolution("after", x, true);
        CHECKS.due("attempts", x.count(4), 1);
    }

    // Promise 5: attempt

    /** "An attempt: SOLVED, CONSTANT or WRONG": each counts as one attempt. */
    static void promise5EachAttemptCounts() {
        KrylovDesk x = Desks.coin();
        KrylovDesk y = Desks.blankCoin();
        for (int i = 0; i < Desks.DRAWS.length; i++) {
            boolean odd = Desks.DRAWS[i] % 2 == 1;
            CHECKS.due("coin " + i, x.attempt(), odd ? KrylovDesk.SOLVED : KrylovDesk.WRONG);
            CHECKS.due("blank coin " + i, y.attempt(), odd ? KrylovDesk.CONSTANT : KrylovDesk.WRONG);
            CHECKS.due("coin's attempts", x.count(4), i + 1);
            CHECKS.due("blank coin's attempts", y.count(4), i + 1);
        }
    }

    /** "An attempt": on an object that nothing was told to. */
    static void promise5EmptyObject() {
        for (int n = 1; n <= 16; n++) {
            KrylovDesk x = new KrylovDesk(2, n, 1);
            CHECKS.due("attempt", x.attempt(), KrylovDesk.SOLVED);
            CHECKS.due("degree", x.degree(), 0);
            CHECKS.due("the last of the solution", x.solution(n - 1), 0);
            CHECKS.due("products", x.products(), 2 * n);
        }
    }

    // Promise 6: solve

    private static void checkNone(int most) {
        KrylovDesk x = Desks.coin();
        x.seed(Desks.seedFor(2, 1));
        x.attempt();
        int number = x.count(3);
        int products = x.products();
        CHECKS.due("solve(" + most + ")", x.solve(most), KrylovDesk.NONE);
        CHECKS.due("attempts", x.count(4), 1);
        CHECKS.due("the generator's number", x.count(3), number);
        CHECKS.due("products", x.products(), products);
        checkHasRow("NONE", x, true);
        checkHasSolution("NONE", x, true);
    }

    /** "NONE: fewer than 1": no attempt is made, and what there was stays. */
    static void promise6FewerThan1() {
        for (int most : new int[] {0, -1, -50, Integer.MIN_VALUE}) {
            checkNone(most);
        }
    }

    /** "NONE: .. or more than 50": no attempt is made, and what there was stays. */
    static void promise6MoreThan50() {
        for (int most : new int[] {51, 52, 256 + 1, 65536 + 1, Integer.MAX_VALUE}) {
            checkNone(most);
        }
    }

    /** "or so many were made": 1, the fewest. */
    static void promise6JustOne() {
        KrylovDesk x = Desks.coin();
        CHECKS.due("solve", x.solve(1), KrylovDesk.WRONG);
        CHECKS.due("attempts", x.count(4), 1);
    }

    /** "or so many were made": 50, the most, and each number between. */
    static void promise6SoMany() {
        for (int most = 1; most <= 50; most++) {
            KrylovDesk x = new KrylovDesk(46337, 1, 1);
            x.side(0, 1);
            CHECKS.due("solve", x.solve(most), KrylovDesk.CONSTANT);
            CHECKS.due("attempts", x.count(4), most);
            CHECKS.due("products", x.products(), most);
        }
    }

    /** "until one is SOLVED": none is made after it, be it the first, one between or the last allowed. */
    static void promise6UntilSolved() {
        for (int most : new int[] {3, 4, 50}) {
            KrylovDesk x = Desks.coin();
            CHECKS.due("the third draw is the first odd one", x.solve(most), KrylovDesk.SOLVED);
            CHECKS.due("attempts", x.count(4), 3);
            CHECKS.due("solution", x.solution(0), 1);
        }
        KrylovDesk y = Desks.coin();
        y.seed(Desks.seedFor(2, 1));
        CHECKS.due("the first", y.solve(50), KrylovDesk.SOLVED);
        CHECKS.due("attempts", y.count(4), 1);
    }

    /** "until .. so many were made": one fewer than it would take. */
    static void promise6OneTooFew() {
        KrylovDesk x = Desks.coin();
        CHECKS.due("solve", x.solve(2), KrylovDesk.WRONG);
        CHECKS.due("attempts", x.count(4), 2);
        CHECKS.due("solution", x.solution(0), BAD);
    }

    /** "what the last one told": not the first one, nor the one before. */
    static void promise6LastOneTold() {
        for (int most = 1; most <= Desks.DRAWS.length; most++) {
            boolean odd = Desks.DRAWS[most - 1] % 2 == 1;
            CHECKS.due("solve(" + most + ")", Desks.blankCoin().solve(most), odd ? KrylovDesk.CONSTANT : KrylovDesk.WRONG);
        }
    }

    /** "Attempts": a solution that is there already does not spare them. */
    static void promise6SolvedBefore() {
        KrylovDesk x = Desks.pair();
        x.attempt();
        CHECKS.due("solve", x.solve(50), KrylovDesk.SOLVED);
        CHECKS.due("attempts", x.count(4), 2);
    }

    // Promise 7: solution

    /** "BAD: there is none": before an attempt, after one that is WRONG, and after one that is CONSTANT. */
    static void promise7ThereIsNone() {
        KrylovDesk x = Desks.coin();
        CHECKS.due("no attempt", x.solution(0), BAD);
        x.solve(50);
        CHECKS.due("solved", x.solution(0), 1);
        x.seed(Desks.seedFor(2, 0));
        x.attempt();
        CHECKS.due("WRONG", x.solution(0), BAD);
        KrylovDesk y = Desks.blankCoin();
        y.seed(Desks.seedFor(2, 1));
        y.attempt();
        CHECKS.due("CONSTANT", y.solution(0), BAD);
    }

    /** "BAD: .. none such": below the first and behind the last. */
    static void promise7NoneSuch() {
        for (int n = 1; n <= 16; n++) {
            KrylovDesk x = new KrylovDesk(46337, n, 16);
            for (int i = 0; i < n; i++) {
                x.entry(i, i, 1);
                x.side(i, i + 1);
            }
            x.attempt();
            CHECKS.due("the first", x.solution(0), 1);
            CHECKS.due("the last", x.solution(n - 1), n);
            CHECKS.due("behind the last", x.solution(n), BAD);
            for (int far : Desks.FAR) {
                CHECKS.due("solution " + far, x.solution(far), BAD);
            }
        }
    }

    // Promise 8: degree

    /** "BAD: there is none": before an attempt. */
    static void promise8ThereIsNone() {
        KrylovDesk x = Desks.pair();
        CHECKS.due("no attempt", x.degree(), BAD);
        x.solve(0);
        CHECKS.due("no attempt by solve(0)", x.degree(), BAD);
        x.attempt();
        CHECKS.due("one attempt", x.degree(), 2);
    }

    /** "The degree d": from 0 to n, 0 not being BAD. */
    static void promise8EachDegree() {
        for (int d = 0; d <= 16; d++) {
            // The places up to d have each their own number on the diagonal, and b is 0 at all others.
            KrylovDesk x = new KrylovDesk(46337, 16, 16);
            for (int i = 0; i < 16; i++) {
                x.entry(i, i, i + 1);
                x.side(i, i < d ? 1 : 0);
            }
            CHECKS.due("attempt", x.attempt(), KrylovDesk.SOLVED);
            CHECKS.due("degree", x.degree(), d);
        }
    }

    /** "of the last polynomial": of an attempt without a solution too, and not of the one before. */
    static void promise8LastPolynomial() {
        KrylovDesk x = Desks.blankCoin();
        for (int i = 0; i < Desks.DRAWS.length; i++) {
            x.attempt();
            CHECKS.due("degree " + i, x.degree(), Desks.DRAWS[i] % 2);
        }
    }

    // Promise 9: coefficient

    /** "BAD: none such": there is no polynomial. */
    static void promise9ThereIsNone() {
        KrylovDesk x = Desks.pair();
        for (int i = -1; i <= 3; i++) {
            CHECKS.due("coefficient " + i, x.coefficient(i), BAD);
        }
    }

    /** "BAD: none such": below x^0 and above x^d, for each d. */
    static void promise9NoneSuch() {
        for (int d = 0; d <= 16; d++) {
            KrylovDesk x = new KrylovDesk(46337, 16, 16);
            for (int i = 0; i < 16; i++) {
                x.entry(i, i, i + 1);
                x.side(i, i < d ? 1 : 0);
            }
            x.attempt();
            CHECKS.due("x^0", x.coefficient(0) != BAD, true);
            CHECKS.due("x^d", x.coefficient(d), 1);
            for (int i = d + 1; i <= 40; i++) {
                CHECKS.due("x^" + i + " for d " + d, x.coefficient(i), BAD);
            }
            for (int far : Desks.FAR) {
                CHECKS.due("x^" + far, x.coefficient(far), BAD);
            }
        }
    }

    /** "Its coefficient": d may be less than that of the polynomial before, whose coefficients are then gone. */
    static void promise9LastPolynomial() {
        KrylovDesk x = Desks.pair();
        x.attempt();
        CHECKS.due("x^0", x.coefficient(0), 2);
        CHECKS.due("x^1", x.coefficient(1), 46334);
        CHECKS.due("x^2", x.coefficient(2), 1);
        x.side(0, 0);
        x.side(1, 0);
        x.attempt();
        CHECKS.due("x^0 of 1", x.coefficient(0), 1);
        CHECKS.due("x^1 of 1", x.coefficient(1), BAD);
        CHECKS.due("x^2 of 1", x.coefficient(2), BAD);
    }

    // Promise 10: number

    /** "BAD: none such": there is no row. */
    static void promise10ThereIsNone() {
        KrylovDesk x = Desks.pair();
        for (int i = -1; i <= 4; i++) {
            CHECKS.due("number " + i, x.number(i), BAD);
        }
    }

    /** "BAD: none such": below number 0 and behind number 2 n - 1. */
    static void promise10NoneSuch() {
        for (int n = 1; n <= 16; n++) {
            KrylovDesk x = new KrylovDesk(46337, n, 1);
            x.entry(0, 0, -1);
            x.side(0, 1);
            x.attempt();
            CHECKS.due("the first", x.number(0), Desks.DRAWS[0]);
            CHECKS.due("the last", x.number(2 * n - 1), 46337 - Desks.DRAWS[0]);
            CHECKS.due("behind the last", x.number(2 * n), BAD);
            for (int far : Desks.FAR) {
                CHECKS.due("number " + far, x.number(far), BAD);
            }
        }
    }

    /** "of the last row": of an attempt without a solution too, and not of the one before. */
    static void promise10LastRow() {
        KrylovDesk x = Desks.coin();
        for (int i = 0; i < Desks.DRAWS.length; i++) {
            x.attempt();
            CHECKS.due("number 0 of row " + i, x.number(0), Desks.DRAWS[i] % 2);
            CHECKS.due("number 1 of row " + i, x.number(1), Desks.DRAWS[i] % 2);
        }
    }

    // Promise 11: verify

    /** "Whether there is a solution .. (a product, then)": none, and so no product. */
    static void promise11NoSolutionNoProduct() {
        KrylovDesk x = Desks.coin();
        CHECKS.due("no attempt", x.verify(), false);
        CHECKS.due("products", x.products(), 0);
        x.attempt();
        CHECKS.due("WRONG", x.verify(), false);
        CHECKS.due("products", x.products(), 2);
        x.solve(50);
        x.side(0, 1);
        int products = x.products();
        CHECKS.due("gone", x.verify(), false);
        CHECKS.due("products", x.products(), products);
    }

    /** "(a product, then)": one for each call, and all else stays as it is. */
    static void promise11OneProductEachTime() {
        KrylovDesk x = Desks.pair();
        x.attempt();
        int number = x.count(3);
        for (int i = 1; i <= 3; i++) {
            CHECKS.due("verify", x.verify(), true);
            CHECKS.due("products", x.products(), 5 + i);
        }
        CHECKS.due("solution 0", x.solution(0), 1);
        CHECKS.due("solution 1", x.solution(1), 2);
        CHECKS.due("degree", x.degree(), 2);
        CHECKS.due("number 0", x.number(0), (3 * Desks.DRAWS[0] + 4 * Desks.DRAWS[1]) % 46337);
        CHECKS.due("the generator's number", x.count(3), number);
        CHECKS.due("attempts", x.count(4), 1);
    }

    /** "Whether there is a solution": 0 is one too. */
    static void promise11SolutionOf0() {
        KrylovDesk x = new KrylovDesk(2, 1, 1);
        x.attempt();
        CHECKS.due("verify", x.verify(), true);
        CHECKS.due("products", x.products(), 3);
    }

    // Promise 12: products

    /** "How many products there were": none at first, and none by any call but attempt, solve and verify. */
    static void promise12OtherCallsMakeNone() {
        KrylovDesk x = Desks.pair();
        CHECKS.due("after entry and side", x.products(), 0);
        x.seed(5);
        x.solve(0);
        x.solve(51);
        x.entry(9, 9, 1);
        x.side(9, 1);
        x.verify();
        x.solution(0);
        x.degree();
        x.coefficient(0);
        x.number(0);
        x.count(0);
        x.products();
        CHECKS.due("after all others", x.products(), 0);
    }

    /** "How many products there were": in all, whatever the attempts told, and although entry() takes the row away. */
    static void promise12InAll() {
        KrylovDesk x = Desks.pair();
        x.attempt();
        CHECKS.due("3 for the row, 1 for the candidate, 1 for the check", x.products(), 5);
        x.side(0, 0);
        x.side(1, 0);
        CHECKS.due("kept by side", x.products(), 5);
        x.attempt();
        CHECKS.due("3 for the row, none for the candidate 0, 1 for the check", x.products(), 9);
        x.entry(0, 0, -1);
        x.entry(0, 1, -1);
        x.entry(1, 1, -2);
        x.side(0, 1);
        CHECKS.due("A is 0", x.attempt(), KrylovDesk.CONSTANT);
        CHECKS.due("3 for the row", x.products(), 12);
    }

    /** "How many products there were": one that an empty matrix makes is one too. */
    static void promise12EmptyMatrix() {
        KrylovDesk x = new KrylovDesk(7, 2, 1);
        x.attempt();
        CHECKS.due("3 for the row, 1 for the check", x.products(), 4);
    }

    // Promise 13: count

    /** "BAD: another number". */
    static void promise13AnotherNumber() {
        KrylovDesk x = Desks.pair();
        for (int what : new int[] {-1, 5, 6}) {
            CHECKS.due("count(" + what + ")", x.count(what), BAD);
        }
        for (int far : Desks.FAR) {
            CHECKS.due("count(" + far + ")", x.count(far), BAD);
        }
        CHECKS.due("count(0), the first", x.count(0), 46337);
        CHECKS.due("count(4), the last", x.count(4), 0);
    }

    /** "2 entries": those taken, not the room and not those refused; none are lost by an attempt. */
    static void promise13EntriesTaken() {
        KrylovDesk x = new KrylovDesk(7, 2, 2);
        CHECKS.due("none", x.count(2), 0);
        x.entry(0, 0, 1);
        CHECKS.due("one", x.count(2), 1);
        x.entry(5, 0, 1);
        CHECKS.due("no such place", x.count(2), 1);
        x.entry(0, 0, 1);
        x.entry(0, 0, 1);
        CHECKS.due("full", x.count(2), 2);
        x.attempt();
        CHECKS.due("after an attempt", x.count(2), 2);
    }

    /** "4 attempts in all": by attempt() and by solve(), and although entry() and side() take the results away. */
    static void promise13AttemptsInAll() {
        KrylovDesk x = Desks.coin();
        x.attempt();
        x.solve(2);
        CHECKS.due("one and two", x.count(4), 3);
        x.side(0, 0);
        x.entry(0, 0, 1);
        x.seed(1);
        CHECKS.due("kept", x.count(4), 3);
        x.solve(0);
        x.solve(51);
        CHECKS.due("none by NONE", x.count(4), 3);
        x.solve(50);
        CHECKS.due("b is 0: one more", x.count(4), 4);
    }
}
