import java.util.Random;

/** Many runs of calls, wrong arguments among them, each answered as the model of the document does. */
public final class ModelTest {
    private static final int RUNS = 4000;
    private static final int[] EXTREMES = {Integer.MIN_VALUE, Integer.MIN_VALUE + 1, -1, 17, 46337, Integer.MAX_VALUE};

    private final Checks checks = new Checks();
    private final Random random = new Random(20261115);
    private final int[] told = new int[6];

    public static void main(String[] args) {
        ModelTest test = new ModelTest();
        for (int run = 0; run < RUNS && test.checks.isClean(); run++) {
            test.oneRun(run);
        }
        for (int kind : new int[] {KrylovDesk.SOLVED, KrylovDesk.CONSTANT, KrylovDesk.WRONG, KrylovDesk.NONE}) {
            test.checks.due("enough attempts told " + kind, test.told[kind] >= 100, true);
        }
        test.checks.end();
    }

    private void oneRun(int run) {
        int p = random.nextInt(3) == 0 ? odd() : 1 + random.nextInt(random.nextBoolean() ? 12 : 46400);
        int n = random.nextInt(20) == 0 ? odd() : 1 + random.nextInt(random.nextBoolean() ? 5 : 16);
        int room = random.nextInt(10) == 0 ? odd() : random.nextInt(104);
        KrylovDesk desk = new KrylovDesk(p, n, room);
        Model model = new Model(p, n, room);
        String name = "run " + run + " (" + p + ", " + n + ", " + room + ")";
        // Few entries give matrices that have no inverse, many give those that have one.
        int first = random.nextInt(100);
        for (int i = 0; i < first; i++) {
            compareEntry(name, desk, model, random.nextInt(model.n), random.nextInt(model.n));
        }
        int calls = 20 + random.nextInt(60);
        for (int i = 0; i < calls; i++) {
            oneCall(name + " call " + i, desk, model);
        }
        compareAll(name + " at the end", desk, model);
    }

    private int odd() {
        return random.nextBoolean() ? EXTREMES[random.nextInt(EXTREMES.length)] : random.nextInt();
    }

    private int index(int bound) {
        return random.nextInt(12) == 0 ? odd() : random.nextInt(bound + 2) - 1;
    }

    private int value() {
        return random.nextInt(4) == 0 ? odd() : random.nextInt(200) - 100;
    }

    private void compareEntry(String name, KrylovDesk desk, Model model, int row, int column) {
        int value = value();
        checks.due(name + " entry(" + row + ", " + column + ", " + value + ")",
                desk.entry(row, column, value), model.entry(row, column, value));
    }

    private void oneCall(String name, KrylovDesk desk, Model model) {
        int n = model.n;
        switch (random.nextInt(16)) {
            case 0 -> compareEntry(name, desk, model, index(n), index(n));
            case 1, 2 -> {
                int row = index(n);
                int value = value();
                checks.due(name + " side(" + row + ", " + value + ")", desk.side(row, value), model.side(row, value));
            }
            case 3 -> {
                int g = odd();
                desk.seed(g);
                model.seed(g);
            }
            case 4, 5, 6 -> compareTold(name + " attempt()", desk.attempt(), model.attempt());
            case 7, 8 -> {
                int most = random.nextInt(6) == 0 ? odd() : random.nextInt(8) == 0 ? 48 + random.nextInt(5) : random.nextInt(6);
                compareTold(name + " solve(" + most + ")", desk.solve(most), model.solve(most));
            }
            case 9 -> {
                int i = index(n);
                checks.due(name + " solution(" + i + ")", desk.solution(i), model.solution(i));
            }
            case 10 -> checks.due(name + " degree()", desk.degree(), model.degree());
            case 11 -> {
                int i = index(n + 1);
                checks.due(name + " coefficient(" + i + ")", desk.coefficient(i), model.coefficient(i));
            }
            case 12 -> {
                int i = index(2 * n);
                checks.due(name + " number(" + i + ")", desk.number(i), model.number(i));
            }
            case 13 -> checks.due(name + " verify()", desk.verify(), model.verify());
            case 14 -> checks.due(name + " products()", desk.products(), model.products);
            default -> {
                int what = index(5);
                checks.due(name + " count(" + what + ")", desk.count(what), model.count(what));
            }
        }
    }

    private void compareTold(String call, int got, int want) {
        checks.due(call, got, want);
        told[want]++;
    }

    private void compareAll(String name, KrylovDesk desk, Model model) {
        checks.due(name + " degree()", desk.degree(), model.degree());
        for (int i = -1; i <= 2 * model.n; i++) {
            checks.due(name + " solution(" + i + ")", desk.solution(i), model.solution(i));
            checks.due(name + " coefficient(" + i + ")", desk.coefficient(i), model.coefficient(i));
            checks.due(name + " number(" + i + ")", desk.number(i), model.number(i));
        }
        checks.due(name + " verify()", desk.verify(), model.verify());
        checks.due(name + " products()", desk.products(), model.products);
        for (int what = -1; what <= 5; what++) {
            checks.due(name + " count(" + what + ")", desk.count(what), model.count(what));
        }
    }
}
