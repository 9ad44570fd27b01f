import java.math.BigInteger;

/** What each operator, load and store answers, against arithmetic done another way. */
public final class Promise08RunOperatorsTest {
    private static final Checks checks = new Checks("promise 8, operators");
    private static final long LOW = Programs.LOW_32;
    private static final long[] SAMPLES = {
        0, 1, 2, 5, 31, 32, 33, 63, 64, 0x7FFFFFFFL, 0x80000000L, 0x80000001L, 0xFFFFFFFFL, 0x100000000L,
        0x100000001L, 0x1234567890ABCDEFL, Long.MAX_VALUE, Long.MIN_VALUE, -1, -2, -5, 0xFFFFFFFF00000000L
    };

    public static void main(String[] args) {
        for (long x : SAMPLES) {
            ofOne(x);
            for (long y : SAMPLES) ofTwo(x, y);
        }
        constants();
        divisionByZero();
        variables();
        loads();
        stores();
        memoryEnds();
        growing();
        checks.end();
    }

    private static int[] op(int operation) {
        return Programs.op(operation);
    }

    private static int[] op(int operation, int a) {
        return Programs.op(operation, a);
    }

    private static void one(int operation, long x, long want) {
        checks.due(operation + " of " + x, Programs.valueOf(Programs.put(x), op(operation)), want);
    }

    private static void ofOne(long x) {
        one(69, x, x << 32 == 0 ? 1 : 0);
        one(80, x, x == 0 ? 1 : 0);
        one(167, x, x << 32 >>> 32);
        one(173, x, x << 32 >>> 32);
    }

    private static void two(int operation, long x, long y, long want) {
        checks.due(operation + " of " + x + " and " + y,
                Programs.valueOf(Programs.put(x), Programs.put(y), op(operation)), want);
    }

    private static BigInteger unsigned(long v) {
        return BigInteger.valueOf(v).mod(BigInteger.ONE.shiftLeft(32));
    }

    private static long low(BigInteger v) {
        return v.mod(BigInteger.ONE.shiftLeft(32)).longValue();
    }

    private static void ofTwo(long x, long y) {
        BigInteger ux = unsigned(x);
        BigInteger uy = unsigned(y);
        two(70, x, y, ux.equals(uy) ? 1 : 0);
        two(71, x, y, ux.equals(uy) ? 0 : 1);
        two(72, x, y, ux.intValue() < uy.intValue() ? 1 : 0);
        two(73, x, y, ux.compareTo(uy) < 0 ? 1 : 0);
        two(106, x, y, low(ux.add(uy)));
        two(107, x, y, low(ux.subtract(uy)));
        two(108, x, y, low(ux.multiply(uy)));
        if (uy.signum() != 0) two(110, x, y, low(ux.divide(uy)));
        two(113, x, y, low(ux.and(uy)));
        two(116, x, y, low(ux.shiftLeft(uy.intValue() & 31)));
        two(81, x, y, x == y ? 1 : 0);
        two(83, x, y, x < y ? 1 : 0);
        two(124, x, y, BigInteger.valueOf(x).add(BigInteger.valueOf(y)).longValue());
        two(125, x, y, BigInteger.valueOf(x).subtract(BigInteger.valueOf(y)).longValue());
        two(126, x, y, BigInteger.valueOf(x).multiply(BigInteger.valueOf(y)).longValue());
    }

    private static void constants() {
        checks.due("65", Programs.valueOf(Programs.op(65, -1, 7)), LOW);
        checks.due("65", Programs.valueOf(Programs.op(65, Integer.MIN_VALUE, -1)), 0x80000000L);
        checks.due("66", Programs.valueOf(Programs.op(66, -1, 0)), LOW);
        checks.due("66", Programs.valueOf(Programs.op(66, 0, -1)), 0xFFFFFFFF00000000L);
        checks.due("66", Programs.valueOf(Programs.op(66, 0x89ABCDEF, 0x01234567)), 0x0123456789ABCDEFL);
    }

    private static void divisionByZero() {
        checks.due("by 0", Programs.trapOf(op(65, 5), op(65, 0), op(110), op(26)), 11);
        checks.due("by 0 in the lowest 32 bits", Programs.trapOf(op(65, 5), Programs.put(1L << 32), op(110), op(26)), 11);
        checks.due("0 by 1", Programs.trapOf(op(65, 0), op(65, 1), op(110), op(26)), 0);
    }

    private static void variables() {
        long wide = 0x1122334455667788L;
        StackMachine m = new StackMachine();
        int f = Programs.write(m, 1, 5, 2, op(32, 0), op(33, 1), op(32, 1), op(35, 7), Programs.put(wide + 1), op(34, 2),
                op(32, 2), op(32, 0), op(36, 7), op(35, 7));
        checks.due("steps", Programs.finish(m, f, wide), 10);
        long[] want = {wide, 0, wide + 1, wide + 1, wide};
        for (int i = 0; i < want.length; i++) checks.due("result " + i, m.result(i), want[i]);
        checks.due("global", m.global(7), wide);
        checks.due("select x", Programs.valueOf(Programs.put(wide), Programs.put(-wide), op(65, 3), op(27)), wide);
        checks.due("select y", Programs.valueOf(Programs.put(wide), Programs.put(-wide), op(65, 0), op(27)), -wide);
        checks.due("nothing, and take one", Programs.valueOf(op(65, 3), op(1), op(65, 4), op(26)), 3);
    }

    /** How many bytes; the sign's reach: 0 none, 32 or 64 bits. */
    private static final int[][] LOADS = {
        {40, 4, 0}, {41, 8, 0}, {42, 4, 0}, {43, 8, 0}, {44, 1, 32}, {45, 1, 0}, {46, 2, 32}, {47, 2, 0},
        {48, 1, 64}, {49, 1, 0}, {50, 2, 64}, {51, 2, 0}, {52, 4, 64}, {53, 4, 0}
    };
    private static final int[][] STORES = {
        {54, 4}, {55, 8}, {56, 4}, {57, 8}, {58, 1}, {59, 2}, {60, 1}, {61, 2}, {62, 4}
    };

    private static void loads() {
        long[] contents = {0x1122334455667788L, 0xF1E2D3C4B5A69788L, -1, 0x80, 0x8000, 0x80000000L, 0x7F7F7F7F7F7F7F7FL};
        for (int[] load : LOADS) {
            for (long content : contents) {
                long got = Programs.valueOf(op(65, 8), Programs.put(content), op(55, 3), op(65, 4), op(load[0], 7));
                checks.due("load " + load[0] + " of " + content, got, loaded(content, load[1], load[2]));
            }
        }
    }

    private static long loaded(long content, int size, int signed) {
        int unused = 64 - 8 * size;
        if (signed == 0) return content << unused >>> unused;
        long value = content << unused >> unused;
        return signed == 32 ? value & LOW : value;
    }

    private static void stores() {
        long value = 0x8172635445362718L;
        for (int[] store : STORES) {
            StackMachine m = new StackMachine();
            int f = Programs.write(m, 1, 0, 0, op(65, 0), op(32, 0), op(55, 4), op(65, 8), op(32, 0), op(55, 4),
                    op(32, 0), Programs.put(value), op(store[0], 5));
            Programs.finish(m, f, (9L << 32) + 2);
            long filler = 0x0000000900000002L;
            for (int i = 0; i < 16; i++) {
                int at = i - 3;
                long want = at >= 0 && at < store[1] ? value >>> 8 * at & 0xFF : filler >>> 8 * (i % 8) & 0xFF;
                checks.due("store " + store[0] + ", byte " + i, m.memory(4 + i), want);
            }
            checks.due("ended", m.state(0), 2);
        }
    }

    private static void memoryEnds() {
        for (int[] load : LOADS) {
            int size = load[1];
            checks.due("load at the end", Programs.trapOf(op(65, 64 - size), op(load[0], 0), op(26)), 0);
            checks.due("load beyond", Programs.trapOf(op(65, 65 - size), op(load[0], 0), op(26)), 4);
            checks.due("load beyond by a", Programs.trapOf(op(65, 0), op(load[0], 65 - size), op(26)), 4);
            checks.due("load at -1", Programs.trapOf(op(65, -1), op(load[0], 1), op(26)), 4);
            checks.due("load by -1", Programs.trapOf(op(65, 1), op(load[0], -1), op(26)), 4);
            checks.due("load by least", Programs.trapOf(op(65, 0x80000000), op(load[0], 0x80000000), op(26)), 4);
            checks.due("32 bits of the address", Programs.trapOf(Programs.put(7L << 32), op(load[0], 0), op(26)), 0);
        }
        for (int[] store : STORES) {
            int size = store[1];
            StackMachine m = new StackMachine();
            int f = Programs.write(m, 1, 0, 0, op(32, 0), Programs.put(-1), op(store[0], 0));
            checks.due("the trap is a step", Programs.finish(m, f, 65 - size), 3);
            checks.due("store beyond", m.state(1), 4);
            for (int i = 0; i < 64; i++) checks.due("nothing was stored", m.memory(i), 0);
            Programs.finish(m, f, 64 - size);
            checks.due("store at the end", m.state(0), 2);
            checks.due("last byte", m.memory(63), 255);
            checks.due("byte ahead", m.memory(63 - size), 0);
            Programs.finish(m, f, -1);
            checks.due("store at -1", m.state(0), 3);
            checks.due("store by -1", Programs.trapOf(op(65, 1), op(65, 0), op(store[0], -1)), 4);
            checks.due("store by least", Programs.trapOf(op(65, 0x80000000), op(65, 0), op(store[0], 0x80000000)), 4);
        }
    }

    private static void growing() {
        StackMachine m = new StackMachine();
        int f = Programs.write(m, 1, 2, 0, op(32, 0), op(64), op(63));
        long[] more = {0, 1, (3L << 32) + 2, 3, -1, 0x80000000L, 2, 1, 0};
        long[] answer = {1, 1, 2, LOW, LOW, LOW, 4, LOW, 6};
        int[] pages = {1, 2, 4, 4, 4, 4, 6, 6, 6};
        for (int i = 0; i < more.length; i++) {
            Programs.finish(m, f, more[i]);
            checks.due("grow by " + more[i], m.result(0), answer[i]);
            checks.due("pages then", m.result(1), pages[i]);
            checks.due("state(10)", m.state(10), pages[i]);
            checks.due("last byte", m.memory(64 * pages[i] - 1), 0);
            checks.due("none behind", m.memory(64 * pages[i]), -1);
        }
        int store = Programs.write(m, 1, 0, 0, op(32, 0), op(65, 1), op(58, 0));
        Programs.finish(m, store, 383);
        checks.due("store at the new end", m.memory(383), 1);
        Programs.finish(m, store, 384);
        checks.due("beyond the new end", m.state(1), 4);
    }
}
