public final class Promise10ResultTest {
    public static void main(String[] args) {
        Checks checks = new Checks("promise 10");
        StackMachine m = new StackMachine();
        checks.due("nothing was called", m.result(0), 0);
        int[][] code = new int[8][];
        for (int i = 0; i < 8; i++) code[i] = Programs.put(0x100000000L * (i + 1) - i);
        int eight = Programs.write(m, 3, 8, 2, code);
        int none = Programs.write(m, 0, 0, 4, Programs.op(1));
        int traps = Programs.write(m, 0, 1, 0, Programs.op(65, 1), Programs.op(0));
        Programs.call(m, eight, 7, 7, 7);
        m.run(7);
        checks.due("not yet", m.result(0), 0);
        m.run(1);
        int[] others = {-1, 8, 9, 220, Integer.MIN_VALUE, Integer.MAX_VALUE};
        for (int k : others) checks.due("result(" + k + ")", m.result(k), 0);
        for (int i = 0; i < 8; i++) checks.due("result(" + i + ")", m.result(i), 0x100000000L * (i + 1) - i);
        checks.due("again", m.result(7), 0x800000000L - 7);
        m.function(0, 0, 0);
        m.argument(3);
        checks.due("whatever is written", m.result(1), 0x200000000L - 1);
        checks.due("refused", m.call(none), false);
        checks.due("a refused call changes nothing", m.result(1), 0x200000000L - 1);
        m.argument(3);
        m.argument(3);
        m.call(eight);
        checks.due("the next call has not ended", m.result(1), 0);
        m.run(8);
        Programs.finish(m, none);
        checks.due("it has none", m.result(0), 0);
        Programs.finish(m, traps);
        checks.due("it trapped", m.result(0), 0);
        checks.end();
    }
}
