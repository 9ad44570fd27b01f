public final class Promise03CodeTest {
    private static final Checks checks = new Checks("promise 3");

    public static void main(String[] args) {
        answers();
        operations();
        operandsOfPlainOnes();
        places();
        labels();
        elses();
        ends();
        branches();
        conditionalBranches();
        tables();
        calls();
        deadLabels();
        mostInstructions();
        checks.end();
    }

    /** A draft of a function without parameters, with so many constants as operands. */
    private static StackMachine draft(int results, int operands) {
        StackMachine m = new StackMachine();
        m.function(0, results, 2);
        for (int i = 0; i < operands; i++) m.code(65, i, 0);
        return m;
    }

    private static void accepted(StackMachine m, int operation, int a, int b) {
        int before = m.state(6);
        checks.due("code(" + operation + ", " + a + ", " + b + ")", m.code(operation, a, b), before + 1);
        checks.due("instructions behind it", m.state(6), before + 1);
    }

    private static void refused(StackMachine m, int operation, int a, int b) {
        long[] before = Checks.writing(m);
        checks.due("code(" + operation + ", " + a + ", " + b + ")", m.code(operation, a, b), -1);
        checks.sameWriting("refused " + operation, m, before);
    }

    private static void shape(StackMachine m, int labels, int operands, int dead) {
        checks.due("labels", m.state(7), labels);
        checks.due("operands", m.state(8), operands);
        checks.due("dead", m.state(9), dead);
    }

    private static void answers() {
        StackMachine m = new StackMachine();
        checks.due("none is written", m.code(1, 0, 0), -1);
        m.function(0, 0, 0);
        checks.due("first", m.code(1, 0, 0), 1);
        checks.due("second, what is not told of is not looked at", m.code(1, -7, 99), 2);
        checks.due("end", m.code(11, Integer.MIN_VALUE, Integer.MAX_VALUE), 3);
        checks.due("none is written any more", m.code(1, 0, 0), -1);
        m.function(0, 0, 0);
        checks.due("in all", m.code(11, 0, 0), 4);
    }

    private static boolean isOperation(int n) {
        return n >= 0 && n <= 6 || n >= 11 && n <= 17 || n == 26 || n == 27 || n >= 32 && n <= 36
                || n >= 40 && n <= 66 || n >= 69 && n <= 73 || n == 80 || n == 81 || n == 83
                || n >= 106 && n <= 108 || n == 110 || n == 113 || n == 116
                || n >= 124 && n <= 126 || n == 167 || n == 173;
    }

    private static void operations() {
        for (int n = -300; n <= 600; n++) {
            if (n == 5 || n == 6 || n == 11) continue;
            StackMachine m = draft(0, 4);
            checks.due("operation " + n, m.code(n, 0, 0) > 0, isOperation(n));
        }
        StackMachine m = draft(0, 4);
        refused(m, Integer.MIN_VALUE, 0, 0);
        refused(m, Integer.MAX_VALUE, 0, 0);
        refused(m, 5, 0, 0);
        refused(m, 6, 0, 0);
        refused(m, 11, 0, 0);
    }

    private static void operandsOfPlainOnes() {
        int[] nothingToNothing = {1};
        int[] nothingToOne = {32, 35, 63, 65, 66};
        int[] oneToNothing = {26, 33, 36};
        int[] oneToOne = {34, 40, 41, 42, 43, 44, 45, 46, 47, 48, 49, 50, 51, 52, 53, 64, 69, 80, 167, 173};
        int[] twoToNothing = {54, 55, 56, 57, 58, 59, 60, 61, 62};
        int[] twoToOne = {70, 71, 72, 73, 81, 83, 106, 107, 108, 110, 113, 116, 124, 125, 126};
        takesAndPuts(nothingToNothing, 0, 0);
        takesAndPuts(nothingToOne, 0, 1);
        takesAndPuts(oneToNothing, 1, 0);
        takesAndPuts(oneToOne, 1, 1);
        takesAndPuts(twoToNothing, 2, 0);
        takesAndPuts(twoToOne, 2, 1);
        takesAndPuts(new int[] {27}, 3, 1);
    }

    private static void takesAndPuts(int[] operations, int taken, int put) {
        for (int operation : operations) {
            for (int there = 0; there <= 4; there++) {
                StackMachine m = draft(0, there);
                if (there < taken) {
                    refused(m, operation, 0, 0);
                } else {
                    accepted(m, operation, 0, 0);
                    shape(m, 1, there - taken + put, 0);
                }
            }
            // Operands below the label's height are not its own.
            StackMachine m = draft(0, 4);
            m.code(2, 0, 0);
            if (taken > 0) refused(m, operation, 0, 0);
        }
    }

    private static void places() {
        int[] onLocals = {32, 33, 34};
        int[] onGlobals = {35, 36};
        int[] wrong = {-1, Integer.MIN_VALUE, Integer.MAX_VALUE, 16};
        for (int operation : onLocals) {
            StackMachine m = draft(0, 3);
            for (int a : wrong) refused(m, operation, a, 0);
            refused(m, operation, 2, 0);
            accepted(m, operation, 1, -9);
        }
        for (int operation : onGlobals) {
            StackMachine m = draft(0, 3);
            for (int a : wrong) refused(m, operation, a, 0);
            refused(m, operation, 8, 0);
            accepted(m, operation, 7, -9);
        }
        StackMachine m = new StackMachine();
        m.function(0, 0, 0);
        refused(m, 32, 0, 0);
        m.drop();
        m.function(2, 0, 1);
        accepted(m, 32, 2, 0);
        refused(m, 32, 3, 0);
        accepted(m, 40, -1, 0);
        accepted(m, 40, Integer.MAX_VALUE, 0);
    }

    private static void labels() {
        for (int operation = 2; operation <= 4; operation++) {
            int more = operation == 4 ? 1 : 0;
            StackMachine m = draft(0, 4 + more);
            refused(m, operation, -1, 0);
            refused(m, operation, 5, 0);
            refused(m, operation, 0, -1);
            refused(m, operation, 0, 5);
            accepted(m, operation, 4, 4);
            shape(m, 2, 4, 0);
            accepted(m, 26, 0, 0);
            shape(m, 2, 3, 0);
            refused(m, operation, 4 - more, 0);
            accepted(m, operation, 1, 0);
            shape(m, 3, 1, 0);
        }
        StackMachine m = draft(0, 3);
        accepted(m, 4, 1, 1);
        shape(m, 2, 1, 0);
        accepted(m, 11, 0, 0);
        shape(m, 1, 2, 0);
    }

    private static void elses() {
        StackMachine m = draft(0, 3);
        refused(m, 5, 0, 0);
        accepted(m, 4, 2, 1);
        refused(m, 5, 0, 0);
        accepted(m, 106, 0, 0);
        accepted(m, 5, -3, 77);
        shape(m, 2, 2, 0);
        refused(m, 11, 0, 0);
        refused(m, 5, 0, 0);
        accepted(m, 26, 0, 0);
        refused(m, 5, 0, 0);
        accepted(m, 11, 0, 0);
        shape(m, 1, 1, 0);
        refused(m, 5, 0, 0);
        for (int operation = 2; operation <= 3; operation++) {
            m = draft(0, 0);
            accepted(m, operation, 0, 0);
            refused(m, 5, 0, 0);
        }
        // A dead first part may lack results, but not have more.
        m = draft(0, 1);
        accepted(m, 4, 0, 1);
        accepted(m, 0, 0, 0);
        accepted(m, 65, 0, 0);
        accepted(m, 65, 0, 0);
        refused(m, 5, 0, 0);
        accepted(m, 26, 0, 0);
        accepted(m, 26, 0, 0);
        accepted(m, 5, 0, 0);
        shape(m, 2, 0, 0);
        refused(m, 11, 0, 0);
        // An inner label stands between the ELSE and its IF.
        m = draft(0, 1);
        accepted(m, 4, 0, 0);
        accepted(m, 2, 0, 0);
        refused(m, 5, 0, 0);
        accepted(m, 11, 0, 0);
        accepted(m, 5, 0, 0);
    }

    private static void ends() {
        StackMachine m = draft(2, 1);
        refused(m, 11, 0, 0);
        accepted(m, 65, 0, 0);
        accepted(m, 65, 0, 0);
        refused(m, 11, 0, 0);
        accepted(m, 26, 0, 0);
        accepted(m, 11, 0, 0);
        shape(m, 0, 0, 0);
        m = draft(0, 1);
        accepted(m, 4, 0, 1);
        accepted(m, 65, 0, 0);
        refused(m, 11, 0, 0); // without ELSE there is nothing to be its result
        accepted(m, 5, 0, 0);
        accepted(m, 65, 0, 0);
        accepted(m, 11, 0, 0);
        shape(m, 1, 1, 0);
        m = draft(0, 0);
        accepted(m, 3, 0, 2);
        refused(m, 11, 0, 0);
        accepted(m, 65, 0, 0);
        accepted(m, 65, 0, 0);
        accepted(m, 11, 0, 0);
        shape(m, 1, 2, 0);
    }

    private static void branches() {
        StackMachine m = draft(1, 2);
        accepted(m, 2, 2, 2);
        accepted(m, 3, 1, 0);
        refused(m, 12, -1, 0);
        refused(m, 12, 3, 0);
        refused(m, 12, 1, 0); // the block's two results are not there
        accepted(m, 12, 0, 55); // the loop wants its one parameter
        shape(m, 3, 0, 1);
        accepted(m, 11, 0, 0);
        shape(m, 2, 1, 0);
        refused(m, 12, 0, 0);
        accepted(m, 12, 1, 0);
        shape(m, 2, 0, 1);
        m = draft(1, 1);
        accepted(m, 2, 0, 0);
        refused(m, 15, 0, 0);
        accepted(m, 65, 0, 0);
        accepted(m, 15, -1, 5);
        shape(m, 2, 0, 1);
        m = draft(0, 3);
        accepted(m, 0, -1, -1);
        shape(m, 1, 0, 1);
    }

    private static void conditionalBranches() {
        StackMachine m = draft(2, 2);
        refused(m, 13, 0, 0);
        accepted(m, 65, 0, 0);
        refused(m, 13, -1, 0);
        refused(m, 13, 1, 0);
        accepted(m, 13, 0, -4);
        shape(m, 1, 2, 0);
        m = draft(0, 1);
        accepted(m, 3, 1, 0);
        refused(m, 13, 0, 0);
        accepted(m, 65, 0, 0);
        accepted(m, 13, 0, 0);
        shape(m, 2, 1, 0);
        accepted(m, 13, 1, 0);
        shape(m, 2, 0, 0);
    }

    private static void tables() {
        StackMachine m = draft(1, 0);
        refused(m, 14, 0, 0);
        accepted(m, 65, 0, 0);
        refused(m, 14, -1, 0);
        refused(m, 14, 21, 0);
        refused(m, 6, 0, 0);
        accepted(m, 14, 0, -1);
        refused(m, 6, 0, 0); // the function's result is not there
        refused(m, 11, 0, 0);
        refused(m, 0, 0, 0);
        refused(m, 65, 0, 0);
        m = draft(1, 2);
        accepted(m, 14, 20, 0);
        checks.due("the index is taken", m.state(8), 1);
        for (int i = 0; i < 21; i++) {
            refused(m, 14, 0, 0);
            refused(m, 6, 1, 0);
            refused(m, 6, -1, 0);
            checks.due("not dead yet", m.state(9), 0);
            accepted(m, 6, 0, 33);
        }
        shape(m, 1, 0, 1);
        refused(m, 6, 0, 0);
        accepted(m, 11, 0, 0);
        // All entries want as many as the first of them.
        m = draft(1, 2);
        accepted(m, 2, 0, 0);
        accepted(m, 65, 0, 0);
        accepted(m, 65, 0, 0);
        accepted(m, 14, 1, 0);
        accepted(m, 6, 0, 0);
        refused(m, 6, 1, 0);
        accepted(m, 6, 0, 0);
        m = draft(1, 0);
        accepted(m, 3, 0, 1);
        accepted(m, 2, 0, 0);
        accepted(m, 65, 0, 0);
        accepted(m, 14, 1, 0);
        accepted(m, 6, 0, 0);
        refused(m, 6, 2, 0);
        accepted(m, 6, 1, 0);
    }

    private static void calls() {
        StackMachine m = new StackMachine();
        Programs.write(m, 2, 1, 0, Programs.op(65));
        m.function(1, 3, 0);
        refused(m, 16, -1, 0);
        refused(m, 16, 2, 0);
        refused(m, 16, 0, 0);
        refused(m, 16, 1, 0);
        accepted(m, 65, 0, 0);
        refused(m, 16, 0, 0);
        accepted(m, 16, 1, 9); // the one that is written
        shape(m, 1, 3, 0);
        accepted(m, 16, 0, 0);
        shape(m, 1, 2, 0);
        refused(m, 17, -1, 0);
        refused(m, 17, 9, 0);
        refused(m, 17, 0, -1);
        refused(m, 17, 0, 9);
        refused(m, 17, 2, 0);
        accepted(m, 17, 1, 8);
        shape(m, 1, 8, 0);
        accepted(m, 65, 0, 0);
        accepted(m, 17, 8, 0);
        shape(m, 1, 0, 0);
        refused(m, 17, 0, 0);
    }

    private static void deadLabels() {
        StackMachine m = draft(2, 3);
        accepted(m, 0, 0, 0);
        shape(m, 1, 0, 1);
        accepted(m, 27, 0, 0);
        shape(m, 1, 1, 1);
        accepted(m, 106, 0, 0);
        shape(m, 1, 1, 1);
        accepted(m, 13, 0, 0); // asks for three, puts two again
        shape(m, 1, 2, 1);
        accepted(m, 65, 0, 0);
        refused(m, 11, 0, 0);
        accepted(m, 2, 4, 0); // a new label is open
        shape(m, 2, 4, 0);
        for (int i = 0; i < 4; i++) accepted(m, 26, 0, 0);
        refused(m, 26, 0, 0);
        accepted(m, 11, 0, 0);
        shape(m, 1, 0, 1);
        accepted(m, 4, 1, 1);
        shape(m, 2, 1, 0);
        accepted(m, 11, 0, 0);
        shape(m, 1, 1, 1);
        accepted(m, 14, 1, 0);
        accepted(m, 6, 0, 0);
        accepted(m, 6, 0, 0);
        shape(m, 1, 0, 1);
        accepted(m, 17, 8, 1);
        accepted(m, 11, 0, 0);
        shape(m, 0, 0, 0);
        // What is missing at the end of a dead label is there behind it.
        m = draft(3, 0);
        accepted(m, 2, 0, 3);
        accepted(m, 65, 0, 0);
        refused(m, 11, 0, 0);
        accepted(m, 0, 0, 0);
        accepted(m, 65, 0, 0);
        accepted(m, 11, 0, 0);
        shape(m, 1, 3, 0);
        accepted(m, 11, 0, 0);
    }

    private static void mostInstructions() {
        StackMachine m = draft(0, 0);
        for (int i = 1; i <= 1499; i++) m.code(1, 0, 0);
        checks.due("the last one", m.code(1, 0, 0), 1500);
        checks.due("one too many", m.code(11, 0, 0), -1);
        checks.due("it is still written", m.state(7), 1);
        m.drop();
        checks.due("room again", m.state(6), 0);
    }
}
