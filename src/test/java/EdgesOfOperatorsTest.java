/** The boundary cases of the operations from 26 on. */
public final class EdgesOfOperatorsTest extends Edges {
    /** Bytes, and where the sign reaches: 0 for none, else 32 or 64 bits; of the loads in their order. */
    private static final int[][] LOADED = {
        {4, 0}, {8, 0}, {4, 0}, {8, 0}, {1, 32}, {1, 0}, {2, 32}, {2, 0},
        {1, 64}, {1, 0}, {2, 64}, {2, 0}, {4, 64}, {4, 0}
    };
    private static final int[] STORED = {4, 8, 4, 8, 1, 2, 1, 2, 4};

    public static void main(String[] args) {
        checks = new Checks("edges of operators");
        takeOne();
        select();
        locals();
        globals();
        constants();
        loadsOfSoManyBytes();
        loadsWithSign();
        loadsBeyondTheEnd();
        storesOfSoManyBytes();
        storesBeyondTheEnd();
        bothWithoutSign();
        lowestByteFirst();
        storeTakesTheValueFirst();
        pages();
        growing();
        growingByTooMany();
        pagesOf64Bytes();
        isZero();
        comparisons();
        wrapsOn32Bits();
        divisions();
        shifts();
        and();
        on64Bits();
        lowest32Bits();
        checks.end();
    }

    private static void takeOne() {
        checks.sentence("26 takes one");
        refused(draft(0, 0), 26);
        StackMachine m = draft(0, 1);
        accepted(m, 26);
        shape(m, 1, 0, 0);
        checks.due("the upper one", Programs.valueOf(op(65, 1), op(65, 2), op(26)), 1);
    }

    private static void select() {
        checks.sentence("27 takes c, y, x, puts x if c (32 bits) is not 0, else y");
        long[] conditions = {0, 1, -1, 1L << 32, (1L << 32) + 1, 0x80000000L, Long.MIN_VALUE};
        int[] want = {8, 7, 7, 8, 7, 7, 8};
        for (int i = 0; i < want.length; i++) {
            checks.due("by " + conditions[i], Programs.valueOf(op(65, 7), op(65, 8), Programs.put(conditions[i]), op(27)), want[i]);
        }
    }

    private static void locals() {
        checks.sentence("32 puts local a, 33 takes it, 34 takes it and puts it again");
        StackMachine m = new StackMachine();
        int f = Programs.write(m, 8, 4, 8, op(65, 1), op(33, 0), op(65, 2), op(34, 15), op(32, 0), op(32, 15), op(32, 7));
        Programs.finish(m, f, 11, 12, 13, 14, 15, 16, 17, 18);
        long[] want = {2, 1, 2, 18};
        for (int k = 0; k < 4; k++) checks.due("result " + k, m.result(k), want[k]);
        for (int operation = 33; operation <= 34; operation++) {
            m = new StackMachine();
            m.function(1, 0, 0);
            refused(m, operation);
            push(m, 1);
            accepted(m, operation);
            shape(m, 1, operation - 33, 0);
        }
    }

    private static void globals() {
        checks.sentence("35, 36 the same as 32, 33 with global a (0 .. 7)");
        for (int operation = 35; operation <= 36; operation++) {
            StackMachine m = draft(0, 3);
            for (int a : new int[] {-1, 8, 9, LEAST, MOST}) refused(m, operation, a, 0);
            accepted(m, operation, 0, 0);
            accepted(m, operation, 7, 0);
        }
        refused(draft(0, 0), 36);
        StackMachine m = new StackMachine();
        int f = Programs.write(m, 0, 2, 0, op(65, 5), op(36, 0), op(65, 6), op(36, 7), op(35, 0), op(35, 7));
        Programs.finish(m, f);
        checks.due("global 0", m.result(0), 5);
        checks.due("global 7", m.result(1), 6);
    }

    private static void constants() {
        checks.sentence("65 puts a (32 bits), 66 a (the lowest 32 bits) and b");
        int[] values = {0, 1, MOST, LEAST, -1};
        for (int a : values) {
            long low = a < 0 ? a + (1L << 32) : a;
            checks.due("65 of " + a, Programs.valueOf(op(65, a, -1)), low);
            for (int b : values) checks.due("66 of " + a + ", " + b, Programs.valueOf(op(66, a, b)), b * (1L << 32) + low);
        }
    }

    /** What a load finds where the memory has ones alone, or the bytes of content. */
    private static long load(int operation, long content) {
        return Programs.valueOf(op(65, 0), Programs.put(-1), op(55, 0), op(65, 0), Programs.put(-1), op(55, 16),
                op(65, 0), Programs.put(content), op(55, 8), op(65, 0), op(operation, 8));
    }

    private static void loadsOfSoManyBytes() {
        checks.sentence("40, 42, 54, 56 four; 41, 43, 55, 57 eight; 44, 45, 58 one, 46, 47, 59 two");
        long content = 0x0807060504030201L;
        for (int i = 0; i < LOADS.length; i++) {
            int bits = 8 * LOADED[i][0];
            long want = bits == 64 ? content : content % (1L << bits);
            checks.due("load " + LOADS[i], load(LOADS[i], content), want);
        }
    }

    private static void loadsWithSign() {
        checks.sentence("(44, 46 with sign to 32 bits) .. (48, 50, 52 with sign to 64)");
        for (int i = 0; i < LOADS.length; i++) {
            int bits = 8 * LOADED[i][0];
            if (bits == 64) continue;
            long half = 1L << bits - 1;
            long below = LOADED[i][1] == 0 ? half : LOADED[i][1] == 32 ? (1L << 32) - half : -half;
            checks.due("the most without the sign, " + LOADS[i], load(LOADS[i], half - 1), half - 1);
            checks.due("the sign alone, " + LOADS[i], load(LOADS[i], half), below);
            checks.due("all ones, " + LOADS[i], load(LOADS[i], -1), below + half - 1);
        }
    }

    private static void loadsBeyondTheEnd() {
        checks.sentence("TRAPS 4 beyond the memory's end");
        for (int i = 0; i < LOADS.length; i++) {
            int last = 64 - LOADED[i][0];
            StackMachine m = new StackMachine();
            int f = Programs.write(m, 1, 1, 0, op(32, 0), op(LOADS[i], 0));
            int further = Programs.write(m, 1, 1, 0, op(32, 0), op(LOADS[i], last));
            for (long address : new long[] {0, last}) {
                checks.due("steps", Programs.finish(m, f, address), 2);
                checks.due("load at " + address, m.state(0), 2);
            }
            for (long address : new long[] {last + 1, 64, -1, 0x80000000L, LOW}) {
                checks.due("the trap is a step", Programs.finish(m, f, address), 2);
                checks.due("load at " + address, m.state(0), 3);
                checks.due("trap", m.state(1), 4);
            }
            Programs.finish(m, further, 0);
            checks.due("by a", m.state(0), 2);
            Programs.finish(m, further, 1);
            checks.due("by a, and one more", m.state(0), 3);
        }
    }

    private static void storesOfSoManyBytes() {
        checks.sentence("48, 49, 60 one, 50, 51, 61 two, 52, 53, 62 four");
        for (int i = 0; i < STORES.length; i++) {
            StackMachine m = new StackMachine();
            Programs.finish(m, Programs.write(m, 0, 0, 0, op(65, 20), Programs.put(0x8877665544332211L), op(STORES[i], 10)));
            checks.due("ahead of them", m.memory(29), 0);
            for (int k = 0; k < 8; k++) checks.due("byte " + k + " of " + STORES[i], m.memory(30 + k), k < STORED[i] ? 0x11 * (k + 1) : 0);
            checks.due("behind them", m.memory(38), 0);
        }
    }

    private static void storesBeyondTheEnd() {
        checks.sentence("TRAPS 4 beyond the memory's end");
        for (int i = 0; i < STORES.length; i++) {
            int last = 64 - STORED[i];
            StackMachine m = new StackMachine();
            int f = Programs.write(m, 1, 0, 0, op(32, 0), Programs.put(-1), op(STORES[i], 0));
            for (long address : new long[] {last + 1, 63 + 1, -1, 0x80000000L, LOW}) {
                checks.due("the trap is a step", Programs.finish(m, f, address), 3);
                checks.due("store at " + address, m.state(0), 3);
                checks.due("trap", m.state(1), 4);
                for (int k = 0; k < 8; k++) checks.due("nothing is stored", m.memory(56 + k) + m.memory(k), 0);
            }
            Programs.finish(m, f, last);
            checks.due("store at the end", m.state(0), 2);
            checks.due("the last byte", m.memory(63), 255);
            checks.due("the first of them", m.memory(last), 255);
            checks.due("ahead of it", m.memory(last - 1), 0);
        }
    }

    private static void bothWithoutSign() {
        checks.sentence("at the address + a (both without sign)");
        long[] addresses = {0, 1, 63, LOW, 0x80000000L, 1L << 32, 0xFFFFFFFF00000001L};
        int[] offsets = {0, 1, 63, -1, LEAST, MOST};
        for (long address : addresses) {
            for (int a : offsets) {
                // 4294967296 less than the sum would often be an address.
                boolean isThere = (address & LOW) + (a & LOW) < 64;
                int want = isThere ? 0 : 4;
                checks.due("load at " + address + " + " + a, Programs.trapOf(Programs.put(address), op(45, a), op(26)), want);
                checks.due("store at " + address + " + " + a, Programs.trapOf(Programs.put(address), op(65, 1), op(58, a)), want);
            }
        }
    }

    private static void lowestByteFirst() {
        checks.sentence("the lowest byte first");
        StackMachine m = new StackMachine();
        Programs.finish(m, Programs.write(m, 0, 0, 0, op(65, 56), Programs.put(0x0807060504030201L), op(55, 0)));
        for (int k = 0; k < 8; k++) checks.due("byte " + k, m.memory(56 + k), k + 1);
        int f = Programs.write(m, 0, 1, 0, op(65, 62), op(47, 0));
        Programs.finish(m, f);
        checks.due("two of them", m.result(0), 0x0807);
    }

    private static void storeTakesTheValueFirst() {
        checks.sentence("STORES (take a value and then an address below it)");
        for (int operation : STORES) {
            refused(draft(0, 1), operation);
            StackMachine m = new StackMachine();
            Programs.finish(m, Programs.write(m, 0, 0, 0, op(65, 3), op(65, 5), op(operation)));
            checks.due("the value at its address", m.memory(3), 5);
            checks.due("not the other way", m.memory(5), 0);
        }
    }

    private static StackMachine grower() {
        StackMachine m = new StackMachine();
        Programs.write(m, 1, 2, 0, op(32, 0), op(64), op(63));
        return m;
    }

    private static void grow(StackMachine m, long by, long want, int pages) {
        checks.due("steps", Programs.finish(m, 0, by), 3);
        checks.due("grow by " + by, m.result(0), want);
        checks.due("63 behind it", m.result(1), pages);
        checks.due("pages", m.state(10), pages);
    }

    private static void pages() {
        checks.sentence("it has 1 at first, 6 at most");
        StackMachine m = grower();
        checks.due("at first", m.state(10), 1);
        for (int had = 1; had < 6; had++) grow(m, 1, had, had + 1);
        grow(m, 1, LOW, 6);
        grow(m, 0, 6, 6);
    }

    private static void growing() {
        checks.sentence("64 takes n, grows it by so many (32 bits without sign), puts how many it had");
        for (int by = 0; by <= 5; by++) grow(grower(), by, 1, 1 + by);
        grow(grower(), 1L << 32, 1, 1);
        grow(grower(), (1L << 32) + 5, 1, 6);
        refused(draft(0, 0), 64);
    }

    private static void growingByTooMany() {
        checks.sentence("or 4294967295");
        long[] tooMany = {6, 7, -1, LOW, 0x80000000L, 0x7FFFFFFFL, (1L << 32) + 6, Long.MAX_VALUE};
        for (long by : tooMany) grow(grower(), by, 4294967295L, 1);
        StackMachine m = grower();
        grow(m, 3, 1, 4);
        grow(m, 3, 4294967295L, 4);
        grow(m, 2, 4, 6);
    }

    private static void pagesOf64Bytes() {
        checks.sentence("PAGES have 64 bytes");
        for (int pages = 1; pages <= 6; pages++) {
            StackMachine m = grower();
            int store = Programs.write(m, 1, 0, 0, op(32, 0), op(65, 200), op(58));
            int load = Programs.write(m, 1, 1, 0, op(32, 0), op(45));
            grow(m, pages - 1, 1, pages);
            Programs.finish(m, store, 64 * pages - 1);
            checks.due("the last byte", m.memory(64 * pages - 1), 200);
            checks.due("none behind it", m.memory(64 * pages), -1);
            Programs.finish(m, load, 64 * pages - 1);
            checks.due("loaded", m.result(0), 200);
            Programs.finish(m, store, 64 * pages);
            checks.due("a store behind it", m.state(0), 3);
            Programs.finish(m, load, 64 * pages);
            checks.due("a load behind it", m.state(0), 3);
        }
    }

    private static void one(int operation, long x, long want) {
        checks.due(operation + " of " + x, Programs.valueOf(Programs.put(x), op(operation)), want);
    }

    private static void two(int operation, long x, long y, long want) {
        checks.due(operation + " of " + x + ", " + y, Programs.valueOf(Programs.put(x), Programs.put(y), op(operation)), want);
    }

    private static void isZero() {
        checks.sentence("On 32 bits: 69 x is 0");
        one(69, 0, 1);
        one(69, 1, 0);
        one(69, -1, 0);
        one(69, 0x80000000L, 0);
        one(69, 1L << 32, 1);
    }

    private static void comparisons() {
        checks.sentence("70, 71 x = y, not; 72, 73 x < y with, without sign");
        long[] values = {0, 1, 0x7FFFFFFFL, 0x80000000L, LOW};
        for (long x : values) {
            for (long y : values) {
                two(70, x, y, x == y ? 1 : 0);
                two(71, x, y, x == y ? 0 : 1);
                two(72, x, y, signed(x) < signed(y) ? 1 : 0);
                two(73, x, y, x < y ? 1 : 0);
            }
        }
        two(70, 1L << 32, 2L << 32, 1);
        two(71, 1L << 32, 2L << 32, 0);
    }

    private static long signed(long of32) {
        return of32 >= 0x80000000L ? of32 - (1L << 32) : of32;
    }

    private static void wrapsOn32Bits() {
        checks.sentence("106 x + y, 107 x - y, 108 x * y");
        two(106, LOW, 0, LOW);
        two(106, LOW, 1, 0);
        two(106, LOW, LOW, LOW - 1);
        two(106, 0x7FFFFFFFL, 1, 0x80000000L);
        two(107, 0, 0, 0);
        two(107, 0, 1, LOW);
        two(107, 0x80000000L, 1, 0x7FFFFFFFL);
        two(107, 1, LOW, 2);
        two(108, 0x10000, 0xFFFF, 0xFFFF0000L);
        two(108, 0x10000, 0x10000, 0);
        two(108, LOW, LOW, 1);
        two(108, LOW, 2, LOW - 1);
    }

    private static void divisions() {
        checks.sentence("110 x / y without sign (TRAPS 11 by 0)");
        two(110, 7, 7, 1);
        two(110, 6, 7, 0);
        two(110, LOW, 1, LOW);
        two(110, LOW, LOW, 1);
        two(110, LOW - 1, LOW, 0);
        two(110, 0x80000000L, LOW, 0);
        two(110, LOW, 0x80000000L, 1);
        two(110, 0x80000000L, 2, 0x40000000L);
        long[] zeros = {0, 1L << 32, Long.MIN_VALUE};
        for (long y : zeros) {
            for (long x : new long[] {0, 1, -1}) {
                checks.due(x + " by " + y, Programs.trapOf(Programs.put(x), Programs.put(y), op(110), op(26)), 11);
            }
        }
        checks.due("by 1", Programs.trapOf(op(65, 0), op(65, 1), op(110), op(26)), 0);
        StackMachine m = new StackMachine();
        checks.due("the trap is a step", Programs.finish(m, Programs.write(m, 0, 1, 0, op(65, 1), op(65, 0), op(110))), 3);
    }

    private static void shifts() {
        checks.sentence("116 x shifted left by y modulo 32");
        two(116, 1, 0, 1);
        two(116, 1, 31, 0x80000000L);
        two(116, 1, 32, 1);
        two(116, 1, 33, 2);
        two(116, 3, 31, 0x80000000L);
        two(116, 1, LOW, 0x80000000L);
        two(116, 1, -32, 1);
        two(116, LOW, 1, LOW - 1);
    }

    private static void and() {
        checks.sentence("113 and");
        two(113, LOW, 0x80000001L, 0x80000001L);
        two(113, -1, -1, LOW);
        two(113, 12, 10, 8);
        two(113, 1L << 32, 1L << 32, 0);
    }

    private static void on64Bits() {
        checks.sentence("On 64 bits: 80, 81, 83 like 69, 70, 72; 124, 125, 126 like 106 .. 108");
        one(80, 0, 1);
        one(80, 1, 0);
        one(80, 1L << 32, 0);
        one(80, Long.MIN_VALUE, 0);
        two(81, 1L << 32, 2L << 32, 0);
        two(81, Long.MIN_VALUE, Long.MIN_VALUE, 1);
        two(83, Long.MIN_VALUE, Long.MAX_VALUE, 1);
        two(83, Long.MAX_VALUE, Long.MIN_VALUE, 0);
        two(83, -1, 0, 1);
        two(83, 0, 0, 0);
        two(83, LOW, 1L << 32, 1);
        two(124, Long.MAX_VALUE, 1, Long.MIN_VALUE);
        two(124, LOW, 1, 1L << 32);
        two(124, -1, 1, 0);
        two(125, Long.MIN_VALUE, 1, Long.MAX_VALUE);
        two(125, 0, 1, -1);
        two(126, 1L << 32, 1L << 31, Long.MIN_VALUE);
        two(126, 1L << 32, 1L << 32, 0);
        two(126, Long.MIN_VALUE, -1, Long.MIN_VALUE);
        two(126, LOW, LOW, 0xFFFFFFFE00000001L);
    }

    private static void lowest32Bits() {
        checks.sentence("167 the lowest 32 bits. 173 these as 64");
        for (int operation : new int[] {167, 173}) {
            one(operation, LOW, LOW);
            one(operation, 1L << 32, 0);
            one(operation, -1, LOW);
            one(operation, 0x80000000L, 0x80000000L);
            one(operation, Long.MIN_VALUE + 5, 5);
        }
    }
}
