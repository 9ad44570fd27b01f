public final class Promise01NewObjectTest {
    public static void main(String[] args) {
        Checks checks = new Checks("promise 1");
        StackMachine m = new StackMachine();
        for (int what = 0; what < 10; what++) checks.due("state(" + what + ")", m.state(what), 0);
        checks.due("one page", m.state(10), 1);
        for (int k = 0; k < 8; k++) checks.due("global", m.global(k), 0);
        for (int i = 0; i < 64; i++) checks.due("memory", m.memory(i), 0);
        checks.due("memory behind the page", m.memory(64), -1);
        checks.due("no function to look at", m.look(0, 0), -1);
        checks.due("no function to call", m.call(0), false);
        checks.due("nothing to run", m.run(10), 0);
        checks.due("no result", m.result(0), 0);
        checks.due("no argument yet", m.argument(4), 1);
        emptyTable(checks);
        apart(checks);
        checks.end();
    }

    private static void emptyTable(Checks checks) {
        StackMachine m = new StackMachine();
        int f = Programs.write(m, 1, 0, 0, Programs.op(32, 0), Programs.op(17, 0, 0));
        for (int k = 0; k < 30; k++) {
            Programs.finish(m, f, k);
            checks.due("the entry is empty", m.state(1), 7);
        }
    }

    private static void apart(Checks checks) {
        StackMachine one = new StackMachine();
        StackMachine other = new StackMachine();
        Programs.finish(one, Programs.write(one, 0, 0, 0, Programs.op(65, 5), Programs.op(36, 1)));
        checks.due("its own global", one.global(1), 5);
        checks.due("the other's global", other.global(1), 0);
        checks.due("the other's functions", other.state(5), 0);
    }
}
