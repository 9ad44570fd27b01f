/** The boundary cases of "RUNNING": frames, steps, and what exhausts. */
public final class EdgesOfRunningTest extends Edges {
    public static void main(String[] args) {
        checks = new Checks("edges of running");
        frameWithItsLocals();
        eachIsAStep();
        someAreNone();
        doneWithTheCallFromOutside();
        doneWithTheStepAhead();
        thirtyFrames();
        thirtyFramesByTheTable();
        framesThatAreGone();
        valuesOfOneFrame();
        valuesAreLocalsAndOperands();
        valuesOfAllFrames();
        valuesOfThreeFrames();
        valuesOfFramesThatAreGone();
        valuesByTheTable();
        mostOperandsEver();
        exhaustingIsAStep();
        exhaustingFromOutsideIsNone();
        checks.end();
    }

    private static void frameWithItsLocals() {
        checks.sentence("a call makes a FRAME with its locals");
        for (int parameters = 0; parameters <= 8; parameters += 4) {
            for (int locals = 0; locals <= 8; locals += 4) {
                StackMachine m = new StackMachine();
                int leaf = Programs.write(m, parameters, 0, locals, op(1));
                m.function(0, 0, 3);
                push(m, parameters + 2);
                Programs.add(m, op(16, leaf), op(15), op(11));
                m.call(1);
                checks.due("a frame", m.state(2), 1);
                checks.due("its locals", m.state(3), 3);
                m.run(parameters + 3);
                checks.due("two frames", m.state(2), 2);
                checks.due("the parameters are the called one's now", m.state(3), 3 + 2 + parameters + locals);
                m.run(1);
                checks.due("its frame is gone", m.state(2), 1);
                checks.due("with its locals", m.state(3), 5);
            }
        }
    }

    private static void eachIsAStep() {
        checks.sentence("Each instruction that is done, or TRAPS, is a STEP");
        steps(1, op(1));
        steps(2, op(65, 0), op(4), op(11));
        steps(2, op(2), op(65, 0), op(13), op(11));
        steps(1, op(2), op(12), op(11));
        steps(2, op(2), op(65, 9), op(14, 1), op(6), op(6), op(11));
        steps(1, op(15), op(1));
        for (int operation : new int[] {35, 63, 65, 66}) steps(2, op(operation), op(26));
        steps(2, op(65), op(36));
        steps(5, op(65), op(65), op(65), op(27), op(26));
        steps(3, op(65), op(64), op(26));
        for (int operation : LOADS) steps(3, op(65), op(operation), op(26));
        for (int operation : STORES) steps(3, op(65), op(65), op(operation));
        for (int operation : OF_ONE) steps(3, op(65), op(operation), op(26));
        for (int operation : OF_TWO) steps(4, op(65, 4), op(65, 2), op(operation), op(26));
        callsAndLocals();
        trappingIsAStep();
    }

    private static void steps(int want, int[]... code) {
        StackMachine m = new StackMachine();
        int f = Programs.write(m, 0, 0, 0, code);
        for (int n = want - 1; n <= want + 1; n++) {
            m.call(f);
            checks.due("run", m.run(n), Math.min(n, want));
            checks.due("it goes on", m.state(0) == 1, n < want);
            checks.due("state(4)", m.state(4), Math.min(n, want));
        }
    }

    private static void trappingIsAStep() {
        steps(1, op(0), op(1));
        steps(3, op(65, 4), op(65, 0), op(110), op(26));
        steps(2, op(65, 64), op(45), op(26));
        steps(3, op(65, 64), op(65, 1), op(58), op(1));
        steps(2, op(65, 30), op(17), op(1));
        steps(2, op(65, 29), op(17), op(1));
    }

    private static void callsAndLocals() {
        StackMachine m = new StackMachine();
        int leaf = Programs.write(m, 1, 1, 1, op(32, 0), op(34, 1), op(33, 0), op(32, 1));
        int caller = Programs.write(m, 0, 1, 0, op(65, 5), op(16, leaf), op(65, 0), op(17, 1, 1));
        m.entry(0, leaf);
        checks.due("calls and locals", Programs.finish(m, caller), 4 + 2 * 4);
        checks.due("result", m.result(0), 5);
    }

    private static void someAreNone() {
        checks.sentence("but 2, 3, 5, 6, 11 are none");
        StackMachine m = new StackMachine();
        int f = Programs.write(m, 1, 0, 0,
                op(2), op(3), op(2), op(11), op(11), op(11), // none
                op(32, 0), op(4), op(1), op(5), op(1), op(1), op(11), // 32, 4 and one of the two arms
                op(2), op(32, 0), op(14, 2), op(6), op(6), op(6), op(11), // 32, 14
                op(3), op(11));
        checks.due("by the one arm", Programs.finish(m, f, 1), 5);
        checks.due("ended", m.state(0), 2);
        checks.due("by the other arm", Programs.finish(m, f, 0), 6);
        checks.due("ended", m.state(0), 2);
    }

    private static void doneWithTheCallFromOutside() {
        checks.sentence("they are done with the step (or the call from outside) ahead of them");
        StackMachine m = new StackMachine();
        int[][] none = {op(2), op(3), op(11), op(11)};
        int empty = Programs.write(m, 0, 0, 4, none);
        int one = Programs.write(m, 0, 0, 4, op(2), op(3), op(11), op(11), op(1));
        checks.due("called", m.call(empty), true);
        checks.due("nothing is left to be done", m.state(0), 2);
        checks.due("steps", m.state(4), 0);
        checks.due("run", m.run(1), 0);
        checks.due("called", m.call(one), true);
        checks.due("a step is left", m.state(0), 1);
        checks.due("run", m.run(2), 1);
        checks.due("ended", m.state(0), 2);
    }

    private static void doneWithTheStepAhead() {
        checks.sentence("they are done with the step");
        StackMachine m = new StackMachine();
        int empty = Programs.write(m, 0, 0, 8);
        int first = Programs.write(m, 0, 0, 0, op(16, empty), op(2), op(11));
        int second = Programs.write(m, 0, 0, 0, op(16, first), op(2), op(1), op(11), op(3), op(11));
        m.call(second);
        m.run(1);
        checks.due("in the first", m.state(2), 2);
        m.run(1);
        checks.due("the empty one and the first are over with one step", m.state(2), 1);
        checks.due("it goes on", m.state(0), 1);
        m.run(1);
        checks.due("the ends behind the last step", m.state(0), 2);
        checks.due("steps", m.state(4), 3);
    }

    /** Calls itself, so that there are as many frames as its argument says. */
    private static int writeDeep(StackMachine m, int[]... callItself) {
        int f = m.function(1, 0, 0);
        Programs.add(m, op(32, 0), op(65, 1), op(107), op(34, 0), op(4), op(32, 0));
        Programs.add(m, callItself);
        Programs.add(m, op(11), op(11));
        return f;
    }

    private static void thirtyFrames() {
        checks.sentence("At most 30 frames");
        StackMachine m = new StackMachine();
        int deep = writeDeep(m, op(16, 0));
        Programs.call(m, deep, 30);
        m.run(29 * 7);
        checks.due("frames", m.state(2), 30);
        m.run(2000);
        checks.due("30 can be", m.state(0), 2);
        checks.due("steps", m.state(4), 29 * 7 + 5);
        Programs.call(m, deep, 31);
        m.run(30 * 7 - 1);
        checks.due("it goes on ahead of the call", m.state(0), 1);
        checks.due("frames", m.state(2), 30);
        checks.due("the call", m.run(1), 1);
        checks.due("31 can't be", m.state(0), 4);
    }

    private static void thirtyFramesByTheTable() {
        checks.sentence("At most 30 frames .. : a call that would need more EXHAUSTS");
        StackMachine m = new StackMachine();
        int deep = writeDeep(m, op(65, 9), op(17, 1, 0));
        m.entry(9, deep);
        checks.due("steps", Programs.finish(m, deep, 30), 29 * 8 + 5);
        checks.due("30 can be", m.state(0), 2);
        checks.due("steps", Programs.finish(m, deep, 31), 30 * 8);
        checks.due("31 can't be", m.state(0), 4);
    }

    private static void framesThatAreGone() {
        checks.sentence("At most 30 frames");
        // Twice so many frames, one behind the other, above a first one.
        for (int second = 29; second <= 30; second++) {
            StackMachine m = new StackMachine();
            int deep = writeDeep(m, op(16, 0));
            int twice = Programs.write(m, 0, 0, 0, op(65, 29), op(16, deep), op(65, second), op(16, deep));
            Programs.finish(m, twice);
            checks.due("state", m.state(0), second == 29 ? 2 : 4);
        }
    }

    private static int writeWide(StackMachine m, int parameters, int locals, int operands) {
        int f = m.function(parameters, 0, locals);
        push(m, operands);
        Programs.add(m, op(15), op(11));
        return f;
    }

    private static void valuesOfOneFrame() {
        checks.sentence("and 220 values");
        for (int operands = 219; operands <= 221; operands++) {
            StackMachine m = new StackMachine();
            int f = writeWide(m, 0, 0, operands);
            checks.due("called", m.call(f), true);
            checks.due("state with " + operands, m.state(0), operands <= 220 ? 1 : 4);
            checks.due("run", m.run(operands), operands <= 220 ? operands : 0);
            checks.due("values", m.state(3), operands <= 220 ? operands : 0);
            m.run(1);
            checks.due("then", m.state(0), operands <= 220 ? 2 : 4);
        }
    }

    private static void valuesAreLocalsAndOperands() {
        checks.sentence("a frame asks for its locals and the most operands that its function ever has");
        int[][] signatures = {{8, 8}, {8, 0}, {0, 8}, {1, 0}, {0, 1}};
        for (int[] s : signatures) {
            for (int more = 0; more <= 1; more++) {
                StackMachine m = new StackMachine();
                int f = writeWide(m, s[0], s[1], 220 - s[0] - s[1] + more);
                checks.due("called", Programs.call(m, f, new long[s[0]]), true);
                checks.due("state", m.state(0), more == 0 ? 1 : 4);
            }
        }
    }

    private static void valuesOfAllFrames() {
        checks.sentence("all frames for the sum of that");
        for (int more = 0; more <= 1; more++) {
            // The parameters count as operands of the caller and as locals of the called one.
            StackMachine m = new StackMachine();
            int inner = writeWide(m, 2, 1, 110 - 3 + more);
            m.function(0, 0, 8);
            push(m, 102);
            Programs.add(m, repeated(op(26), 100));
            Programs.add(m, op(16, inner), op(15), op(11));
            int done = Programs.finish(m, 1);
            checks.due("state", m.state(0), more == 0 ? 2 : 4);
            checks.due("steps", done, more == 0 ? 203 + 107 + 2 : 203);
        }
    }

    private static void valuesOfThreeFrames() {
        checks.sentence("all frames for the sum of that");
        for (int more = 0; more <= 1; more++) {
            StackMachine m = new StackMachine();
            int inner = writeWide(m, 0, 1, 69 + more);
            int middle = m.function(0, 0, 5);
            push(m, 65);
            Programs.add(m, op(16, inner), op(15), op(11));
            int outer = m.function(0, 0, 8);
            push(m, 72);
            Programs.add(m, op(16, middle), op(15), op(11));
            checks.due("steps", Programs.finish(m, outer), more == 0 ? 73 + 66 + 70 + 2 : 73 + 66);
            checks.due("80 and 70 and " + (70 + more), m.state(0), more == 0 ? 2 : 4);
        }
    }

    private static void valuesOfFramesThatAreGone() {
        checks.sentence("all frames for the sum of that");
        for (int more = 0; more <= 1; more++) {
            StackMachine m = new StackMachine();
            int small = writeWide(m, 0, 3, 0);
            int half = writeWide(m, 0, 0, 110);
            int last = writeWide(m, 0, 8, 102 + more);
            m.function(0, 0, 8);
            push(m, 102);
            Programs.add(m, op(16, half), op(16, small), op(16, half), op(16, small), op(16, last), op(15), op(11));
            Programs.finish(m, 3);
            checks.due("110 and " + (110 + more), m.state(0), more == 0 ? 2 : 4);
        }
    }

    private static void valuesByTheTable() {
        checks.sentence("a call that would need more EXHAUSTS");
        for (int more = 0; more <= 1; more++) {
            StackMachine m = new StackMachine();
            m.entry(0, writeWide(m, 0, 0, 219 + more));
            int caller = Programs.write(m, 0, 0, 0, op(65, 0), op(17));
            checks.due("steps", Programs.finish(m, caller), more == 0 ? 2 + 220 : 2);
            checks.due("state", m.state(0), more == 0 ? 2 : 4);
            checks.due("no trap", m.state(1), 0);
        }
    }

    private static void mostOperandsEver() {
        checks.sentence("the most operands that its function ever has");
        for (int operands = 220; operands <= 221; operands++) {
            // It has so many in an arm that is not gone through, and only ahead of others.
            StackMachine m = new StackMachine();
            m.function(0, 0, 0);
            Programs.add(m, op(65, 0), op(4));
            push(m, operands);
            Programs.add(m, op(15), op(11), op(11));
            checks.due("look", m.look(0, 3), operands);
            m.call(0);
            checks.due("state", m.state(0), operands == 220 ? 1 : 4);
            checks.due("run", m.run(9), operands == 220 ? 2 : 0);
        }
    }

    private static void exhaustingIsAStep() {
        checks.sentence("EXHAUSTS (and is a step");
        StackMachine m = new StackMachine();
        int endless = Programs.write(m, 0, 0, 0, op(16, 0));
        m.call(endless);
        checks.due("29 calls", m.run(29), 29);
        checks.due("frames", m.state(2), 30);
        checks.due("that which exhausts", m.run(2), 1);
        checks.due("steps", m.state(4), 30);
        checks.due("state", m.state(0), 4);
        checks.due("no more", m.run(1), 0);
        checks.due("steps", m.state(4), 30);
    }

    private static void exhaustingFromOutsideIsNone() {
        checks.sentence("but not that from outside");
        StackMachine m = new StackMachine();
        int f = writeWide(m, 1, 0, 220);
        m.argument(3);
        checks.due("called", m.call(f), true);
        checks.due("state", m.state(0), 4);
        checks.due("steps", m.state(4), 0);
        checks.due("run", m.run(1), 0);
        checks.due("steps", m.state(4), 0);
        checks.due("its argument is gone", m.argument(3), 1);
    }
}
