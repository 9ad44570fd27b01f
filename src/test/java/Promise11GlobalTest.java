public final class Promise11GlobalTest {
    public static void main(String[] args) {
        Checks checks = new Checks("promise 11");
        StackMachine m = new StackMachine();
        for (int k = 0; k < 8; k++) {
            int f = Programs.write(m, 1, 0, 0, Programs.op(32, 0), Programs.op(36, k));
            Programs.finish(m, f, valueAt(k));
        }
        for (int k = 0; k < 8; k++) checks.due("global(" + k + ")", m.global(k), valueAt(k));
        int[] none = {-1, 8, 9, Integer.MIN_VALUE, Integer.MAX_VALUE};
        for (int k : none) checks.due("global(" + k + ")", m.global(k), 0);
        Programs.call(m, 3, 5);
        m.run(1);
        checks.due("not yet", m.global(3), valueAt(3));
        m.run(1);
        checks.due("now", m.global(3), 5);
        checks.due("its neighbour", m.global(4), valueAt(4));
        checks.end();
    }

    private static long valueAt(int k) {
        return Long.MIN_VALUE + 0x0101010101L * (k + 1);
    }
}
