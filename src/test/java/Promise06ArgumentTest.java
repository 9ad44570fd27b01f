public final class Promise06ArgumentTest {
    public static void main(String[] args) {
        Checks checks = new Checks("promise 6");
        StackMachine m = new StackMachine();
        int f = Programs.write(m, 8, 8, 0, locals(8));
        int none = Programs.write(m, 0, 0, 0);
        for (int i = 0; i < 8; i++) checks.due("argument", m.argument(valueAt(i)), i + 1);
        checks.due("one too many", m.argument(9), -1);
        checks.due("a call that takes none", m.call(none), false);
        checks.due("they are still there", m.argument(10), -1);
        checks.due("a call that takes 8", m.call(f), true);
        m.run(100);
        for (int i = 0; i < 8; i++) checks.due("local " + i, m.result(i), valueAt(i));
        checks.due("they are gone", m.argument(5), 1);
        checks.due("no call with one", m.call(none), false);
        checks.due("nor that", m.call(f), false);
        checks.due("no such function", m.call(7), false);
        checks.due("the one is still there", m.argument(6), 2);
        checks.end();
    }

    private static long valueAt(int i) {
        return Long.MIN_VALUE + 0x100000001L * i;
    }

    private static int[][] locals(int count) {
        int[][] code = new int[count][];
        for (int i = 0; i < count; i++) code[i] = Programs.op(32, i);
        return code;
    }
}
