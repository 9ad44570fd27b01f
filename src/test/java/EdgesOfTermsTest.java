/** The boundary cases of "Terms": values, functions and labels. */
public final class EdgesOfTermsTest extends Edges {
    public static void main(String[] args) {
        checks = new Checks("edges of terms");
        sixtyFourBits();
        thirtyTwoBits();
        eachFrom0To8();
        localsInTheirOrder();
        localsAre0AtFirst();
        notLookedAt();
        twoIntsNotLookedAt();
        fortyFunctions();
        instructionsInAll();
        endAsTheLastInstruction();
        operandsOfTheDeadAreGone();
        label0();
        asManyAsAreAskedFor();
        belowThoseThatItHas();
        aboveTheHeight();
        takesAndThenPuts();
        labelsFromTheInside();
        branchWantsResults();
        branchToLoopWantsParameters();
        checks.end();
    }

    private static void sixtyFourBits() {
        checks.sentence("VALUES have 64 bits");
        StackMachine m = new StackMachine();
        int f = Programs.write(m, 1, 5, 1,
                op(32, 0),
                op(32, 0), op(33, 1), op(32, 1),
                op(32, 0), op(36, 0), op(35, 0),
                op(65, 0), op(32, 0), op(55), op(65, 0), op(41),
                op(32, 0), op(32, 0), op(65, 1), op(27));
        long[] values = {0, -1, Long.MIN_VALUE, Long.MAX_VALUE, 1L << 32, LOW};
        for (long v : values) {
            Programs.finish(m, f, v);
            for (int k = 0; k < 5; k++) checks.due("result " + k, m.result(k), v);
            checks.due("global", m.global(0), v);
        }
    }

    private static void thirtyTwoBits() {
        checks.sentence("operators on 32 bits take the lowest ones and give values whose other bits are 0");
        long dirt = 0xDEADBEEF00000000L;
        int[] ofOne = {69, 167, 173};
        int[] ofTwo = {70, 71, 72, 73, 106, 107, 108, 110, 113, 116};
        long[] values = {0, 1, 5, 0x7FFFFFFFL, 0x80000000L, LOW};
        for (long x : values) {
            for (int operation : ofOne) {
                long clean = Programs.valueOf(Programs.put(x), op(operation));
                checks.due("other bits of " + operation, clean >>> 32, 0);
                checks.due(operation + " by the lowest", Programs.valueOf(Programs.put(dirt + x), op(operation)), clean);
            }
            for (int operation : ofTwo) {
                if (operation == 110 && x == 0) continue;
                long clean = Programs.valueOf(Programs.put(3), Programs.put(x), op(operation));
                checks.due("other bits of " + operation, clean >>> 32, 0);
                long dirty = Programs.valueOf(Programs.put(dirt + 3), Programs.put(dirt * 3 + x), op(operation));
                checks.due(operation + " by the lowest", dirty, clean);
            }
        }
    }

    private static void eachFrom0To8() {
        checks.sentence("PARAMETERS, RESULTS and further LOCALS (each 0 .. 8");
        for (int place = 0; place < 3; place++) {
            for (int n = -1; n <= 9; n++) {
                int want = n >= 0 && n <= 8 ? 0 : -1;
                checks.due(n + " at place " + place, begin(new StackMachine(), place, n, 0), want);
                checks.due(n + " beside 8, at place " + place, begin(new StackMachine(), place, n, 8), want);
            }
        }
    }

    private static int begin(StackMachine m, int place, int n, int others) {
        return m.function(place == 0 ? n : others, place == 1 ? n : others, place == 2 ? n : others);
    }

    private static void localsInTheirOrder() {
        checks.sentence("locals are the parameters and then these");
        int[][] signatures = {{0, 0}, {0, 8}, {8, 0}, {8, 8}, {3, 2}, {1, 0}, {0, 1}};
        for (int[] s : signatures) {
            for (int operation = 32; operation <= 34; operation++) {
                StackMachine m = new StackMachine();
                m.function(s[0], 0, s[1]);
                push(m, 1);
                refused(m, operation, -1, 0);
                refused(m, operation, s[0] + s[1], 0);
                if (s[0] + s[1] > 0) accepted(m, operation, s[0] + s[1] - 1, 0);
            }
        }
        StackMachine m = new StackMachine();
        int f = Programs.write(m, 2, 4, 2, op(65, 30), op(33, 2), op(65, 40), op(33, 3),
                op(32, 0), op(32, 1), op(32, 2), op(32, 3));
        Programs.finish(m, f, 10, 20);
        for (int k = 0; k < 4; k++) checks.due("local " + k, m.result(k), 10 * (k + 1));
    }

    private static void localsAre0AtFirst() {
        checks.sentence("0 at first");
        StackMachine m = new StackMachine();
        int[][] all = new int[8][];
        for (int i = 0; i < 8; i++) all[i] = op(32, i);
        int fresh = Programs.write(m, 0, 8, 8, all);
        int[][] spoil = repeated(Programs.put(-1), 9);
        m.function(0, 0, 0);
        Programs.add(m, spoil);
        Programs.add(m, repeated(op(26), 9));
        // Its own operands were where the locals of the called one are now.
        Programs.add(m, op(16, fresh), op(36, 0), op(36, 1), op(36, 2), op(36, 3), op(36, 4), op(36, 5), op(36, 6), op(36, 7), op(11));
        Programs.finish(m, 1);
        for (int k = 0; k < 8; k++) checks.due("local " + k + " of an inner frame", m.global(k), 0);
        Programs.finish(m, fresh);
        for (int k = 0; k < 8; k++) checks.due("local " + k + " of a call from outside", m.result(k), 0);
    }

    private static void notLookedAt() {
        checks.sentence("what is not told of is not looked at");
        int[] values = {LEAST, -1, 1, MOST};
        for (int v : values) {
            for (int operation : new int[] {12, 13, 16, 35, 36, 65}) accepted(draft(0, 2), operation, 0, v);
            for (int operation : LOADS) accepted(draft(0, 2), operation, 0, v);
            for (int operation : STORES) accepted(draft(0, 2), operation, 0, v);
            for (int operation = 32; operation <= 34; operation++) {
                StackMachine m = new StackMachine();
                m.function(0, 0, 1);
                push(m, 1);
                accepted(m, operation, 0, v);
            }
            StackMachine m = draft(0, 1);
            accepted(m, 14, 0, v);
            accepted(m, 6, 0, v);
        }
    }

    private static void twoIntsNotLookedAt() {
        checks.sentence("an operation and two ints a, b (what is not told of is not looked at)");
        int[] values = {LEAST, -1, 99, MOST};
        for (int v : values) {
            for (int operation : new int[] {0, 1, 15, 26, 27, 63, 64}) accepted(draft(0, 3), operation, v, v);
            for (int operation : OF_ONE) accepted(draft(0, 3), operation, v, v);
            for (int operation : OF_TWO) accepted(draft(0, 3), operation, v, v);
            StackMachine m = draft(0, 1);
            accepted(m, 4, 0, 0);
            accepted(m, 5, v, v);
            accepted(m, 11, v, v);
            accepted(m, 11, v, v);
        }
    }

    private static void fortyFunctions() {
        checks.sentence("At most 40 functions");
        StackMachine m = new StackMachine();
        for (int i = 0; i < 39; i++) Programs.write(m, 0, 0, 0);
        checks.due("the fortieth", m.function(0, 0, 0), 39);
        accepted(m, 11);
        checks.due("one more", m.function(0, 0, 0), -1);
        checks.due("functions", m.state(5), 40);
        checks.due("none is written", m.state(7), 0);
    }

    private static void instructionsInAll() {
        checks.sentence("1500 instructions in all");
        StackMachine m = new StackMachine();
        Programs.write(m, 0, 0, 0, repeated(op(1), 999));
        m.function(0, 0, 0);
        Programs.add(m, repeated(op(1), 499));
        checks.due("1499 of two functions", m.state(6), 1499);
        checks.due("the last", m.code(2, 0, 0), 1500);
        refused(m, 1);
        refused(m, 11);
        checks.due("instructions", m.state(6), 1500);
        checks.due("it is given up", m.drop(), true);
        m.function(0, 0, 0);
        checks.due("there is room again", m.code(11, 0, 0), 1001);
    }

    private static void endAsTheLastInstruction() {
        checks.sentence("1500 instructions in all");
        StackMachine m = new StackMachine();
        m.function(0, 0, 0);
        Programs.add(m, repeated(op(1), 1499));
        checks.due("an END", m.code(11, 0, 0), 1500);
        checks.due("it is whole", m.look(0, 0), 0);
        checks.due("a function more can be begun", m.function(0, 0, 0), 1);
        refused(m, 11);
    }

    private static void operandsOfTheDeadAreGone() {
        checks.sentence("DEAD (its operands are gone then)");
        for (int operation : new int[] {0, 12, 15}) {
            StackMachine m = draft(0, 3);
            accepted(m, 2);
            push(m, 2);
            shape(m, 2, 2, 0);
            accepted(m, operation);
            shape(m, 2, 0, 1);
            accepted(m, 11);
            shape(m, 1, 3, 0);
        }
    }

    private static void label0() {
        checks.sentence("Label 0 of a function: no parameters, its results, height 0");
        for (int results = 0; results <= 8; results++) {
            StackMachine m = new StackMachine();
            m.function(8, results, 8);
            shape(m, 1, 0, 0);
            refused(m, 26);
            push(m, results);
            shape(m, 1, results, 0);
            if (results > 0) {
                accepted(m, 26);
                refused(m, 12);
                refused(m, 11);
                push(m, 1);
            }
            accepted(m, 11);
        }
    }

    private static void asManyAsAreAskedFor() {
        checks.sentence("In a DEAD label there are as many operands as are asked for");
        StackMachine m = draft(8, 0);
        refused(m, 26);
        accepted(m, 0);
        accepted(m, 26);
        accepted(m, 17, 8, 8);
        shape(m, 1, 8, 1);
        accepted(m, 12);
        accepted(m, 16);
        shape(m, 1, 8, 1);
        accepted(m, 15);
        accepted(m, 13);
        shape(m, 1, 8, 1);
        accepted(m, 0);
        accepted(m, 4, 4, 4);
        shape(m, 2, 4, 0);
        accepted(m, 11);
        shape(m, 1, 4, 1);
    }

    private static void belowThoseThatItHas() {
        checks.sentence("(below those that it has)");
        int[][] behindSelect = {{0, 1}, {1, 1}, {2, 1}, {3, 1}, {4, 2}};
        for (int[] s : behindSelect) {
            StackMachine m = draft(0, 0);
            accepted(m, 0);
            push(m, s[0]);
            accepted(m, 27);
            shape(m, 1, s[1], 1);
        }
    }

    private static void aboveTheHeight() {
        checks.sentence("they have to be there, above the label's height");
        int[][] takers = {{26, 1}, {106, 2}, {27, 3}, {54, 2}, {34, 1}};
        for (int[] taker : takers) {
            StackMachine m = new StackMachine();
            m.function(0, 0, 1);
            push(m, 4);
            accepted(m, 2, 1, 0);
            push(m, taker[1] - 1);
            // With the block's parameter there are just as many as it takes.
            accepted(m, taker[0]);
            m.drop();
            m.function(0, 0, 1);
            push(m, 4);
            accepted(m, 2, 0, 0);
            push(m, taker[1] - 1);
            refused(m, taker[0]);
        }
    }

    private static void takesAndThenPuts() {
        checks.sentence("An instruction TAKES operands");
        ofOneKind(0, 0, 1);
        ofOneKind(0, 1, 35, 63, 65, 66);
        ofOneKind(1, 0, 26, 36);
        ofOneKind(1, 1, 64);
        ofOneKind(1, 1, LOADS);
        ofOneKind(1, 1, OF_ONE);
        ofOneKind(2, 0, STORES);
        ofOneKind(2, 1, OF_TWO);
        ofOneKind(3, 1, 27);
    }

    private static void ofOneKind(int taken, int put, int... operations) {
        for (int operation : operations) {
            if (taken > 0) refused(draft(0, taken - 1), operation);
            StackMachine m = draft(0, taken);
            accepted(m, operation);
            shape(m, 1, put, 0);
            m = draft(0, taken + 1);
            accepted(m, operation);
            shape(m, 1, put + 1, 0);
        }
    }

    private static void labelsFromTheInside() {
        checks.sentence("Labels are counted from the inside: 0 is the innermost");
        // Label k wants k + 1 of the five labels' operands.
        for (int k = -1; k <= 5; k++) {
            for (int there = k; there <= k + 1; there++) {
                StackMachine m = draft(5, 0);
                for (int i = 4; i >= 1; i--) accepted(m, 2, 0, i);
                push(m, Math.max(there, 0));
                either(k >= 0 && k <= 4 && there == k + 1, m, 12, k, 0);
            }
        }
        StackMachine m = draft(0, 0);
        refused(m, 12, LEAST, 0);
        refused(m, 12, MOST, 0);
        refused(m, 12, 1, 0);
        accepted(m, 12, 0, 0);
    }

    private static void branchWantsResults() {
        checks.sentence("A branch to a label WANTS its results");
        for (int kind : new int[] {2, 4}) {
            for (int results = 0; results <= 4; results++) {
                StackMachine m = draft(0, 5);
                accepted(m, kind, 0, results);
                push(m, Math.max(0, results - 1));
                if (results > 0) {
                    refused(m, 12);
                    push(m, 1);
                }
                accepted(m, 12);
            }
        }
    }

    private static void branchToLoopWantsParameters() {
        checks.sentence("of a label of a LOOP its parameters");
        for (int parameters = 0; parameters <= 4; parameters++) {
            StackMachine m = draft(0, 5);
            accepted(m, 3, parameters, 4 - parameters);
            if (parameters > 0) {
                accepted(m, 26);
                refused(m, 12);
                push(m, 1);
            }
            accepted(m, 12);
            shape(m, 2, 0, 1);
        }
    }
}
