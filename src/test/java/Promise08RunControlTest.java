/** Steps, branches, calls, traps and exhaustion; what the single operators answer is in another test. */
public final class Promise08RunControlTest {
    private static final Checks checks = new Checks("promise 8, control");

    public static void main(String[] args) {
        numbers();
        steps();
        conditions();
        branchLeavesWhatIsWanted();
        loops();
        ifWithParameters();
        tables();
        returns();
        calls();
        callsByTable();
        frames();
        values();
        endsWithTheStepAhead();
        traps();
        checks.end();
    }

    private static int[] op(int operation) {
        return Programs.op(operation);
    }

    private static int[] op(int operation, int a) {
        return Programs.op(operation, a);
    }

    private static int[] op(int operation, int a, int b) {
        return Programs.op(operation, a, b);
    }

    private static void numbers() {
        StackMachine m = new StackMachine();
        checks.due("run(0)", m.run(0), 0);
        checks.due("run(2000) with nothing", m.run(2000), 0);
        checks.due("run(-1)", m.run(-1), -1);
        checks.due("run(2001)", m.run(2001), -1);
        checks.due("run(least)", m.run(Integer.MIN_VALUE), -1);
        checks.due("run(most)", m.run(Integer.MAX_VALUE), -1);
        int endless = Programs.write(m, 0, 0, 0, op(3), op(1), op(12, 0), op(11));
        Programs.call(m, endless);
        checks.due("run(2001)", m.run(2001), -1);
        checks.due("no step was done", m.state(4), 0);
        checks.due("run(2000)", m.run(2000), 2000);
        checks.due("run(0)", m.run(0), 0);
        checks.due("run(3)", m.run(3), 3);
        checks.due("steps", m.state(4), 2003);
        checks.due("it goes on", m.state(0), 1);
    }

    private static void steps() {
        int[][] code = {op(65, 1), op(4, 0, 1), op(2), op(65, 1), op(13, 0), op(1), op(11), op(65, 5), op(5), op(65, 6), op(11)};
        StackMachine m = new StackMachine();
        int f = Programs.write(m, 0, 1, 0, code);
        Programs.call(m, f);
        int[] valuesAfter = {1, 0, 1, 0};
        for (int i = 0; i < valuesAfter.length; i++) {
            checks.due("a step", m.run(1), 1);
            checks.due("values after step " + (i + 1), m.state(3), valuesAfter[i]);
            checks.due("steps", m.state(4), i + 1);
        }
        checks.due("the last step takes the ends along", m.run(1), 1);
        checks.due("ended", m.state(0), 2);
        checks.due("result", m.result(0), 5);
        checks.due("no further step", m.run(1), 0);
        checks.due("steps", m.state(4), 5);
    }

    private static void conditions() {
        long[] falses = {0, 1L << 32, Long.MIN_VALUE};
        long[] trues = {1, -1, 2, 0x80000000L, (7L << 32) + 1};
        for (long v : falses) condition(v, false);
        for (long v : trues) condition(v, true);
    }

    private static void condition(long v, boolean want) {
        int one = want ? 1 : 0;
        checks.due("IF " + v, Programs.valueOf(Programs.put(v), op(4, 0, 1), op(65, 1), op(5), op(65, 0), op(11)), one);
        checks.due("BRANCH if " + v, Programs.valueOf(op(65, 1), Programs.put(v), op(13, 0), op(26), op(65, 0)), one);
        checks.due("select " + v, Programs.valueOf(op(65, 1), op(65, 0), Programs.put(v), op(27)), one);
    }

    private static void branchLeavesWhatIsWanted() {
        // 9 stays below the block, 1 and 2 are dropped, 3 and 4 are left.
        int[][] open = {op(65, 9), op(2, 0, 2), op(65, 1), op(65, 2), op(65, 3), op(65, 4)};
        for (int[] branch : new int[][] {op(12, 0), op(13, 0)}) {
            StackMachine m = new StackMachine();
            m.function(0, 3, 0);
            Programs.add(m, open);
            if (branch[0] == 13) m.code(65, 1, 0);
            Programs.add(m, branch);
            if (branch[0] == 13) Programs.add(m, op(26), op(26), op(26), op(26), op(65, 7), op(65, 7));
            Programs.add(m, op(11), op(11));
            Programs.call(m, 0);
            m.run(branch[0] == 13 ? 6 : 5);
            checks.due("values ahead of the branch", m.state(3), branch[0] == 13 ? 6 : 5);
            m.run(1);
            checks.due("ended", m.state(0), 2);
            checks.due("below", m.result(0), 9);
            checks.due("left", m.result(1), 3);
            checks.due("left", m.result(2), 4);
        }
        // A branch that is not taken leaves all.
        checks.due("not taken", Programs.valueOf(op(65, 5), op(2, 1, 1), op(65, 3), op(65, 0), op(13, 0), op(107), op(11)), 2);
        // Through two labels, with locals below the operands.
        StackMachine m = new StackMachine();
        int f = Programs.write(m, 2, 1, 1, op(65, 40), op(2, 0, 1), op(65, 1), op(2, 0, 0), op(65, 2), op(65, 3), op(12, 1),
                op(11), op(11), op(107), op(32, 1), op(106));
        Programs.finish(m, f, 100, 1000);
        checks.due("through two labels", m.result(0), 40 - 3 + 1000);
    }

    private static void loops() {
        // Each time round the loop keeps its two parameters alone: a sum, and a count down to 0.
        StackMachine m = new StackMachine();
        int f = Programs.write(m, 1, 1, 1,
                op(65, 0), op(32, 0), op(3, 2, 1),
                op(33, 1), op(32, 1), op(106), op(65, 77), op(26),
                op(32, 1), op(65, 1), op(107), op(34, 1),
                op(32, 1), op(13, 0), op(26), op(11));
        checks.due("steps", Programs.finish(m, f, 10), 2 + 10 * 11 + 1);
        checks.due("sum", m.result(0), 55);
        // More operands than the parameters are dropped by the branch back.
        int g = Programs.write(m, 1, 1, 0, op(65, 500), op(3, 1, 1), op(65, 8), op(65, 9),
                op(32, 0), op(65, 1), op(107), op(34, 0), op(13, 0), op(26), op(26), op(11));
        Programs.finish(m, g, 3);
        checks.due("ended", m.state(0), 2);
        // At the last time round 8 and 9 are taken off the parameter, the 9 of the time before.
        checks.due("the loop's parameter", m.result(0), 9);
    }

    private static void ifWithParameters() {
        for (int c = 0; c <= 1; c++) {
            checks.due("IF without ELSE", Programs.valueOf(op(65, 7), op(65, c), op(4, 1, 1), op(65, 3), op(106), op(11)), c == 1 ? 10 : 7);
            checks.due("IF with ELSE", Programs.valueOf(op(65, 7), op(65, 2), op(65, c), op(4, 2, 1), op(107), op(5), op(108), op(11)), c == 1 ? 5 : 14);
            checks.due("what is behind the END is done", Programs.valueOf(op(65, c), op(4, 0, 1), op(65, 1), op(5), op(65, 3), op(11), op(65, 10), op(106)), c == 1 ? 11 : 13);
            checks.due("branch out of IF", Programs.valueOf(op(65, c), op(4, 0, 1), op(65, 1), op(65, 2), op(12, 0), op(5), op(65, 3), op(12, 0), op(11)), c == 1 ? 2 : 3);
        }
    }

    private static void tables() {
        StackMachine m = new StackMachine();
        // Entries of three labels, in an order of their own; all want one.
        int f = Programs.write(m, 1, 1, 0,
                op(2, 0, 1), op(2, 0, 1), op(2, 0, 1),
                op(65, 5), op(65, 1), op(32, 0), op(14, 3), op(6, 2), op(6, 0), op(6, 3), op(6, 1), op(11),
                op(65, 10), op(106), op(11),
                op(65, 100), op(106), op(11),
                op(65, 1000), op(106));
        long[] taken = {0, 1, 2, 3, 4, -1, 0x80000000L, 1L << 32, (1L << 32) + 2};
        long[] want = {1001, 1111, 1, 1101, 1101, 1101, 1101, 1001, 1};
        for (int i = 0; i < taken.length; i++) {
            Programs.finish(m, f, taken[i]);
            checks.due("table by " + taken[i], m.result(0), want[i]);
        }
        checks.due("the table is one step", stepsOf(m, f, 2), 4);
        int g = Programs.write(m, 1, 1, 0, op(2, 0, 0), op(32, 0), op(14, 0), op(6, 0), op(11), op(65, 4));
        for (long v : taken) {
            Programs.finish(m, g, v);
            checks.due("one entry alone", m.result(0), 4);
        }
        // An entry back to a loop.
        int h = Programs.write(m, 1, 1, 0, op(2), op(3), op(32, 0), op(65, 1), op(107), op(34, 0),
                op(14, 1), op(6, 1), op(6, 0), op(11), op(11), op(32, 0));
        checks.due("a loop by its table", stepsOf(m, h, 4), 4 * 5 + 1);
        checks.due("result", m.result(0), 0);
    }

    private static int stepsOf(StackMachine m, int function, long argument) {
        return Programs.finish(m, function, argument);
    }

    private static void returns() {
        StackMachine m = new StackMachine();
        int f = Programs.write(m, 1, 2, 1, op(65, 1), op(2), op(3), op(65, 2), op(65, 3), op(65, 4), op(15), op(11), op(11), op(26), op(0));
        checks.due("steps", Programs.finish(m, f, 9), 5);
        checks.due("result 0", m.result(0), 3);
        checks.due("result 1", m.result(1), 4);
        // In a caller: its own operands below stay.
        int g = Programs.write(m, 0, 1, 0, op(65, 50), op(65, 60), op(16, f), op(107), op(107));
        Programs.finish(m, g);
        checks.due("in a caller", m.result(0), 50 - (3 - 4));
    }

    private static void calls() {
        StackMachine m = new StackMachine();
        int minus = Programs.write(m, 2, 1, 1, op(32, 0), op(32, 1), op(107), op(34, 2));
        int user = Programs.write(m, 0, 3, 1, op(65, 9), op(34, 0), op(65, 20), op(65, 6), op(16, minus), op(32, 0));
        Programs.call(m, user);
        m.run(4);
        checks.due("values ahead of the call", m.state(3), 4);
        m.run(1);
        checks.due("two frames", m.state(2), 2);
        checks.due("a local and an operand of one, three locals of the other", m.state(3), 2 + 3);
        m.run(2);
        checks.due("two operands more", m.state(3), 7);
        m.run(2);
        checks.due("the frame is gone with its last step", m.state(2), 1);
        checks.due("values", m.state(3), 3);
        m.run(1);
        checks.due("ended", m.state(0), 2);
        checks.due("result 0", m.result(0), 9);
        checks.due("result 1 is the called one's", m.result(1), 14);
        checks.due("the caller's local is its own", m.result(2), 9);
    }

    private static void callsByTable() {
        StackMachine m = new StackMachine();
        int two = Programs.write(m, 1, 2, 0, op(32, 0), op(65, 2));
        int caller = Programs.write(m, 2, 2, 0, op(32, 0), op(32, 1), op(17, 1, 2));
        int other = Programs.write(m, 1, 1, 0, op(32, 0));
        int otherParameters = Programs.write(m, 2, 2, 0, op(32, 0), op(32, 1));
        m.entry(0, two);
        m.entry(1, other);
        m.entry(2, otherParameters);
        m.entry(29, two);
        checks.due("steps", Programs.finish(m, caller, 44, 0), 5);
        checks.due("its parameter", m.result(0), 44);
        checks.due("its own", m.result(1), 2);
        Programs.finish(m, caller, 45, (5L << 32) + 29);
        checks.due("the lowest 32 bits", m.result(0), 45);
        long[] indices = {30, 31, -1, 0x80000000L, 3, 28, 1, 2};
        int[] want = {6, 6, 6, 6, 7, 7, 8, 8};
        for (int i = 0; i < indices.length; i++) {
            checks.due("the trap is a step", Programs.finish(m, caller, 1, indices[i]), 3);
            checks.due("trapped", m.state(0), 3);
            checks.due("trap by " + indices[i], m.state(1), want[i]);
        }
    }

    private static void frames() {
        StackMachine m = new StackMachine();
        int deep = Programs.write(m, 0, 0, 0, op(1), op(16, 0));
        Programs.call(m, deep);
        checks.due("run", m.run(58), 58);
        checks.due("30 frames", m.state(2), 30);
        checks.due("it goes on", m.state(0), 1);
        checks.due("the call that exhausts is a step", m.run(10), 2);
        checks.due("exhausted", m.state(0), 4);
        checks.due("steps", m.state(4), 60);
        checks.due("frames", m.state(2), 0);
        checks.due("no trap", m.state(1), 0);
        int byTable = Programs.write(m, 0, 0, 0, op(65, 0), op(17, 0, 0));
        m.entry(0, byTable);
        checks.due("by table", Programs.finish(m, byTable), 60);
        checks.due("exhausted", m.state(0), 4);
        // Frames that are gone do not count.
        int leaf = Programs.write(m, 0, 0, 0, op(1));
        int many = Programs.write(m, 0, 0, 1, op(3), op(16, leaf), op(32, 0), op(65, 1), op(106), op(34, 0),
                op(65, 100), op(72), op(13, 0), op(11));
        checks.due("100 calls", Programs.finish(m, many), 900);
        checks.due("ended", m.state(0), 2);
        allAtOnce();
    }

    /** Thirty frames, one in the other, that all end with the innermost one's last step. */
    private static void allAtOnce() {
        StackMachine m = new StackMachine();
        int f = Programs.write(m, 1, 1, 0, op(32, 0), op(65, 1), op(107), op(34, 0), op(4, 0, 1),
                op(32, 0), op(16, 0), op(5), op(65, 77), op(11));
        Programs.call(m, f, 30);
        checks.due("all but the last step", m.run(29 * 7 + 5), 29 * 7 + 5);
        checks.due("30 frames", m.state(2), 30);
        checks.due("the last step", m.run(2), 1);
        checks.due("ended", m.state(0), 2);
        checks.due("the result goes through all", m.result(0), 77);
        Programs.finish(m, f, 31);
        checks.due("one frame too many", m.state(0), 4);
    }

    private static void values() {
        // Each frame asks for 8 + 1 locals and 2 operands: 20 frames fit into 220.
        StackMachine m = new StackMachine();
        int f = Programs.write(m, 1, 0, 8, op(65, 0), op(65, 0), op(26), op(16, 0));
        Programs.call(m, f, 0);
        checks.due("run", m.run(4 * 20 - 1), 79);
        checks.due("20 frames", m.state(2), 20);
        checks.due("values", m.state(3), 20 * 9 + 1);
        checks.due("one frame more is too much", m.run(5), 1);
        checks.due("exhausted", m.state(0), 4);
        // One value more a frame, and only 18 fit.
        StackMachine n = new StackMachine();
        int g = Programs.write(n, 1, 0, 8, op(65, 0), op(65, 0), op(65, 0), op(26), op(26), op(16, 0));
        Programs.call(n, g, 0);
        checks.due("run", n.run(2000), 18 * 6);
        checks.due("exhausted", n.state(0), 4);
        // Frames that are gone, of this call or of one before, ask for nothing more.
        int wide = Programs.write(n, 0, 0, 8, op(65, 1), op(26));
        int caller = Programs.write(n, 0, 0, 8, repeated(op(16, wide), 40));
        for (int i = 0; i < 30; i++) {
            Programs.call(n, caller);
            n.run(1);
            checks.due("two frames", n.state(2), 2);
        }
        checks.due("forty calls, one behind the other", n.run(2000), 40 * 3 - 1);
        checks.due("ended", n.state(0), 2);
        resultsThatNeverCome();
    }

    /** A function that never has its results asks for no room for them. */
    private static void resultsThatNeverCome() {
        for (int operands = 212; operands <= 213; operands++) {
            StackMachine m = new StackMachine();
            int trapping = Programs.write(m, 0, 8, 0, op(0));
            m.function(0, 0, 0);
            Programs.add(m, repeated(op(65), operands));
            Programs.add(m, op(16, trapping), op(15), op(11));
            boolean fits = operands == 212;
            checks.due("the caller's operands and the results", m.look(1, 3), operands + 8);
            checks.due("steps", Programs.finish(m, 1), fits ? 214 : 0);
            checks.due("the called one fits too, and traps", m.state(0), fits ? 3 : 4);
        }
    }

    private static int[][] repeated(int[] instruction, int times) {
        int[][] code = new int[times][];
        for (int i = 0; i < times; i++) code[i] = instruction;
        return code;
    }

    private static void endsWithTheStepAhead() {
        StackMachine m = new StackMachine();
        int empty = Programs.write(m, 0, 0, 0, op(2), op(11));
        int one = Programs.write(m, 0, 0, 0, op(2), op(16, empty), op(11));
        int two = Programs.write(m, 0, 0, 0, op(3), op(16, one), op(11));
        Programs.call(m, two);
        checks.due("first call", m.run(1), 1);
        checks.due("frames", m.state(2), 2);
        checks.due("second call ends all", m.run(1), 1);
        checks.due("ended", m.state(0), 2);
        checks.due("steps", m.state(4), 2);
    }

    private static void traps() {
        StackMachine m = new StackMachine();
        int f = Programs.write(m, 0, 1, 0, op(65, 1), op(36, 0), op(0), op(65, 2), op(36, 0), op(65, 3));
        checks.due("the trap is a step", Programs.finish(m, f), 3);
        checks.due("trapped", m.state(0), 3);
        checks.due("trap", m.state(1), 1);
        checks.due("what was done stays", m.global(0), 1);
        checks.due("no step more", m.run(5), 0);
        checks.due("no result", m.result(0), 0);
        checks.due("frames", m.state(2), 0);
        checks.due("values", m.state(3), 0);
        int g = Programs.write(m, 0, 0, 0, op(16, f), op(26));
        checks.due("a trap in an inner frame stops all", Programs.finish(m, g), 4);
        checks.due("trapped", m.state(0), 3);
    }
}
