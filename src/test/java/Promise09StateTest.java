public final class Promise09StateTest {
    private static final Checks checks = new Checks("promise 9");

    public static void main(String[] args) {
        others();
        running();
        latestTrap();
        writing();
        checks.end();
    }

    private static void others() {
        StackMachine m = new StackMachine();
        int[] none = {-1, 11, 12, Integer.MIN_VALUE, Integer.MAX_VALUE};
        for (int what : none) checks.due("state(" + what + ")", m.state(what), -1);
    }

    private static void running() {
        StackMachine m = new StackMachine();
        int f = Programs.write(m, 1, 0, 1, Programs.op(65, 1), Programs.op(65, 2), Programs.op(26), Programs.op(26));
        checks.due("nothing was called", m.state(0), 0);
        Programs.call(m, f, 1);
        int[] values = {2, 3, 4, 3};
        for (int i = 0; i < values.length; i++) {
            checks.due("it goes on", m.state(0), 1);
            checks.due("frames", m.state(2), 1);
            checks.due("values", m.state(3), values[i]);
            checks.due("steps", m.state(4), i);
            m.run(1);
        }
        checks.due("ended", m.state(0), 2);
        checks.due("frames", m.state(2), 0);
        checks.due("values", m.state(3), 0);
        checks.due("steps", m.state(4), 4);
        checks.due("no trap", m.state(1), 0);
        Programs.finish(m, Programs.write(m, 0, 0, 0, Programs.op(16, 1)));
        checks.due("exhausted", m.state(0), 4);
        checks.due("values", m.state(3), 0);
    }

    private static void latestTrap() {
        StackMachine m = new StackMachine();
        int traps = Programs.write(m, 0, 0, 0, Programs.op(1), Programs.op(0));
        int fine = Programs.write(m, 0, 0, 0, Programs.op(1));
        int other = Programs.write(m, 0, 0, 0, Programs.op(65, 64), Programs.op(45), Programs.op(26));
        Programs.call(m, traps);
        m.run(1);
        checks.due("no trap yet", m.state(1), 0);
        m.run(1);
        checks.due("trapped", m.state(0), 3);
        checks.due("trap", m.state(1), 1);
        Programs.finish(m, fine);
        checks.due("ended", m.state(0), 2);
        checks.due("it is still the latest", m.state(1), 1);
        Programs.finish(m, other);
        checks.due("another", m.state(1), 4);
    }

    private static void writing() {
        StackMachine m = new StackMachine();
        Programs.write(m, 0, 0, 0, Programs.op(1), Programs.op(1));
        m.function(0, 0, 0);
        int[][] code = {{65, 0}, {65, 0}, {2, 1}, {3, 0}, {0, 0}, {106, 0}, {11, 0}, {12, 0}, {11, 0}, {26, 0}};
        // labels, operands, dead behind each of them
        int[][] want = {{1, 1, 0}, {1, 2, 0}, {2, 1, 0}, {3, 0, 0}, {3, 0, 1}, {3, 1, 1}, {3, 1, 1}, {3, 0, 1}, {2, 1, 0}, {2, 0, 0}};
        int written = 3;
        for (int i = 0; i < code.length; i++) {
            if (m.code(code[i][0], code[i][1], 0) > 0) written++;
            for (int k = 0; k < 3; k++) checks.due("state " + (7 + k) + " behind " + i, m.state(7 + k), want[i][k]);
            checks.due("instructions behind " + i, m.state(6), written);
            checks.due("functions", m.state(5), 2);
        }
        checks.due("one was refused", written, 3 + code.length - 1);
    }
}
