public final class Promise02FunctionTest {
    public static void main(String[] args) {
        Checks checks = new Checks("promise 2");
        ranges(checks);
        numbers(checks);
        forty(checks);
        checks.end();
    }

    private static void ranges(Checks checks) {
        int[] wrong = {-1, 9, 100, Integer.MIN_VALUE, Integer.MAX_VALUE};
        StackMachine m = new StackMachine();
        for (int n : wrong) {
            checks.due("parameters " + n, m.function(n, 0, 0), -1);
            checks.due("results " + n, m.function(0, n, 0), -1);
            checks.due("locals " + n, m.function(0, 0, n), -1);
        }
        checks.due("nothing was begun", m.state(5), 0);
        checks.due("nothing is written", m.state(7), 0);
        checks.due("8 of each", m.function(8, 8, 8), 0);
        checks.due("it has one label", m.state(7), 1);
        checks.due("no operands", m.state(8), 0);
        checks.due("it is open", m.state(9), 0);
        checks.due("local 15", m.code(32, 15, 0), 1);
        checks.due("local 16", m.code(32, 16, 0), -1);
    }

    private static void numbers(Checks checks) {
        StackMachine m = new StackMachine();
        checks.due("first", m.function(0, 0, 0), 0);
        checks.due("one is written", m.function(0, 0, 0), -1);
        checks.due("it counts while it is written", m.state(5), 1);
        m.code(11, 0, 0);
        checks.due("second", m.function(1, 2, 3), 1);
        m.drop();
        checks.due("the number is free again", m.function(3, 2, 1), 1);
        m.code(0, 0, 0);
        m.code(11, 0, 0);
        checks.due("parameters", m.look(1, 0), 3);
        checks.due("results", m.look(1, 1), 2);
        checks.due("locals", m.look(1, 2), 1);
    }

    private static void forty(Checks checks) {
        StackMachine m = new StackMachine();
        for (int i = 0; i < 40; i++) {
            checks.due("function " + i, m.function(0, 0, 0), i);
            m.code(11, 0, 0);
        }
        checks.due("one too many", m.function(0, 0, 0), -1);
        checks.due("there are 40", m.state(5), 40);
        checks.due("the last can be called", m.call(39), true);
        checks.due("none is written", m.code(1, 0, 0), -1);
    }
}
