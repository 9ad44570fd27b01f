/**
 * What the tests of the document's boundary cases share. Each of their methods holds one sentence
 * of the document against the value at its boundary and the one just behind it.
 */
abstract class Edges {
    static final int LEAST = Integer.MIN_VALUE;
    static final int MOST = Integer.MAX_VALUE;
    static final long LOW = Programs.LOW_32;
    static final int[] LABELS = {2, 3, 4};
    static final int[] LOADS = {40, 41, 42, 43, 44, 45, 46, 47, 48, 49, 50, 51, 52, 53};
    static final int[] STORES = {54, 55, 56, 57, 58, 59, 60, 61, 62};
    static final int[] OF_ONE = {69, 80, 167, 173};
    static final int[] OF_TWO = {70, 71, 72, 73, 81, 83, 106, 107, 108, 110, 113, 116, 124, 125, 126};

    static Checks checks;

    static int[] op(int operation) {
        return Programs.op(operation);
    }

    static int[] op(int operation, int a) {
        return Programs.op(operation, a);
    }

    static int[] op(int operation, int a, int b) {
        return Programs.op(operation, a, b);
    }

    static int[][] repeated(int[] instruction, int times) {
        int[][] code = new int[times][];
        for (int i = 0; i < times; i++) code[i] = instruction;
        return code;
    }

    /** A function without parameters and locals is written, and has so many operands. */
    static StackMachine draft(int results, int operands) {
        StackMachine m = new StackMachine();
        m.function(0, results, 0);
        push(m, operands);
        return m;
    }

    static void push(StackMachine m, int operands) {
        Programs.add(m, repeated(op(65, 1), operands));
    }

    /** Writes one instruction that is as said. */
    static void accepted(StackMachine m, int operation, int a, int b) {
        int before = m.state(6);
        checks.due("code(" + operation + ", " + a + ", " + b + ")", m.code(operation, a, b), before + 1);
    }

    static void accepted(StackMachine m, int operation) {
        accepted(m, operation, 0, 0);
    }

    /** Tries one instruction that is not as said: it does nothing. */
    static void refused(StackMachine m, int operation, int a, int b) {
        long[] before = Checks.writing(m);
        checks.due("code(" + operation + ", " + a + ", " + b + ")", m.code(operation, a, b), -1);
        checks.sameWriting("refused " + operation, m, before);
    }

    static void refused(StackMachine m, int operation) {
        refused(m, operation, 0, 0);
    }

    static void either(boolean asSaid, StackMachine m, int operation, int a, int b) {
        if (asSaid) accepted(m, operation, a, b);
        else refused(m, operation, a, b);
    }

    static void shape(StackMachine m, int labels, int operands, int dead) {
        checks.due("labels", m.state(7), labels);
        checks.due("operands", m.state(8), operands);
        checks.due("dead", m.state(9), dead);
    }
}
