import java.util.Random;

/** The same calls on the class and on the model, drawn from fixed seeds: every answer has to be the same. */
public final class ModelTest {
    private static final int SEEDS = 4000;
    private static final int CALLS = 500;
    private static final int[] PLAIN = {
        1, 26, 27, 32, 32, 32, 33, 34, 35, 36, 40, 41, 42, 43, 44, 45, 46, 47, 48, 49, 50, 51, 52, 53, 54, 55, 56, 57,
        58, 59, 60, 61, 62, 63, 64, 65, 65, 65, 65, 65, 66, 69, 70, 71, 72, 73, 80, 81, 83, 106, 107, 108, 110, 113,
        116, 124, 125, 126, 167, 173
    };
    private static final int[] CONTROL = {0, 2, 2, 3, 4, 4, 5, 5, 6, 12, 13, 13, 13, 14, 15, 16, 16, 17};

    private final Checks checks;
    private final Random random;
    private final StackMachine m = new StackMachine();
    private final Model model = new Model();
    private final int[] seen;
    private int due;
    private int given;

    private ModelTest(Checks checks, int seed, int[] seen) {
        this.checks = checks;
        this.random = new Random(seed);
        this.seen = seen;
    }

    public static void main(String[] args) {
        Checks checks = new Checks("model");
        int[] seen = new int[20];
        for (int seed = 0; seed < SEEDS; seed++) new ModelTest(checks, seed, seen).go();
        // That the draw reaches what it is made for: each end of a run, and each trap.
        for (int state = 1; state <= 4; state++) checks.due("reached state " + state, seen[state] > 50, true);
        for (int trap : new int[] {1, 4, 6, 7, 8, 11}) checks.due("reached trap " + trap, seen[5 + trap] > 20, true);
        checks.end();
    }

    private void go() {
        for (int i = 0; i < CALLS; i++) {
            int kind = random.nextInt(100);
            boolean writing = m.state(7) > 0;
            if (writing ? kind < 88 : kind < 3) write();
            else if (writing ? kind < 89 : kind < 4) same("drop", m.drop(), model.drop());
            else if (kind < (writing ? 91 : 40)) function();
            else run();
            compare();
        }
    }

    private void same(String what, boolean got, boolean want) {
        checks.due(what, got, want);
    }

    private int small(int most) {
        return random.nextInt(12) == 0 ? random.nextInt(most + 6) - 3 : random.nextInt(most);
    }

    private void function() {
        int p = small(random.nextInt(6) == 0 ? 9 : 3);
        int r = small(random.nextInt(6) == 0 ? 9 : 3);
        int l = small(random.nextInt(6) == 0 ? 9 : 4);
        checks.due("function", m.function(p, r, l), model.function(p, r, l));
        due = 0;
    }

    private void write() {
        int kind = random.nextInt(100);
        int operation = kind < 14 ? 11 : kind < 40 ? CONTROL[random.nextInt(CONTROL.length)]
                : kind < 99 ? PLAIN[random.nextInt(PLAIN.length)] : random.nextInt(200) - 10;
        if (due > 0 && random.nextInt(10) > 0) operation = 6;
        int a = operand(operation);
        int b = operation == 66 ? random.nextInt() : operation >= 2 && operation <= 4 && random.nextBoolean() ? a : small(3);
        int answer = m.code(operation, a, b);
        checks.due("code(" + operation + ", " + a + ", " + b + ")", answer, model.code(operation, a, b));
        if (answer > 0 && operation == 14) due = a + 1;
        if (answer > 0 && operation == 6) due--;
    }

    private int operand(int operation) {
        if (operation == 65 || operation == 66) return random.nextInt(5) == 0 ? random.nextInt() : random.nextInt(5);
        if (operation >= 40 && operation <= 62) return random.nextInt(40) == 0 ? random.nextInt() : random.nextInt(60);
        if (operation == 16) return small(Math.max(1, m.state(5)));
        if (operation == 12 || operation == 13 || operation == 6) return small(Math.max(1, m.state(7)));
        return small(4);
    }

    private void run() {
        switch (random.nextInt(4)) {
            case 0: {
                int k = random.nextInt(3) == 0 ? small(30) : random.nextInt(5);
                int f = random.nextInt(5) == 0 ? -1 : small(Math.max(1, m.state(5)));
                same("entry", m.entry(k, f), model.entry(k, f));
                break;
            }
            case 1:
            case 2: {
                call();
                break;
            }
            default: {
                int n = random.nextInt(20) == 0 ? random.nextInt(2100) - 50 : random.nextInt(15);
                checks.due("run(" + n + ")", m.run(n), model.run(n));
            }
        }
    }

    private void call() {
        int f = small(Math.max(1, m.state(5)));
        int wanted = m.look(f, 0);
        while (given < wanted && random.nextInt(30) > 0) argument();
        if (random.nextInt(40) == 0) argument();
        if (given != wanted) f = functionOf(given, f);
        boolean answer = m.call(f);
        same("call(" + f + ")", answer, model.call(f));
        if (answer) given = 0;
    }

    private void argument() {
        long v = random.nextInt(4) == 0 ? random.nextLong() : random.nextInt(6);
        int answer = m.argument(v);
        checks.due("argument", answer, model.argument(v));
        if (answer > 0) given = answer;
    }

    /** A function with so many parameters, if there is one. */
    private int functionOf(int parameters, int otherwise) {
        int start = random.nextInt(40);
        for (int i = 0; i < 40; i++) if (m.look((start + i) % 40, 0) == parameters) return (start + i) % 40;
        return otherwise;
    }

    private void compare() {
        for (int what = -1; what <= 11; what++) checks.due("state(" + what + ")", m.state(what), model.state(what));
        for (int k = -1; k <= 8; k++) {
            checks.due("result(" + k + ")", m.result(k), model.result(k));
            checks.due("global(" + k + ")", m.global(k), model.global(k));
        }
        int address = random.nextInt(400) - 5;
        checks.due("memory(" + address + ")", m.memory(address), model.memory(address));
        int f = random.nextInt(m.state(5) + 1);
        int what = random.nextInt(6) - 1;
        checks.due("look(" + f + ", " + what + ")", m.look(f, what), model.look(f, what));
        seen[m.state(0)]++;
        if (m.state(0) == 3) seen[5 + m.state(1)]++;
    }
}
