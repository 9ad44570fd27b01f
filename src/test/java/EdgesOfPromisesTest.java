/** The boundary cases of the promises 1 to 13, but for what the terms they use say. */
public final class EdgesOfPromisesTest extends Edges {
    public static void main(String[] args) {
        checks = new Checks("edges of promises");
        newObject();
        functionNumbers();
        functionWhileOneIsWritten();
        functionRefused();
        codeCountsAll();
        codeRefused();
        drop();
        dropOfTheFortieth();
        dropOfNone();
        entryNumbers();
        entryOfWholeOnes();
        entryOfNone();
        arguments();
        argumentBeyond8();
        callOfWholeOnes();
        callWithJustSoMany();
        callWhateverWasRun();
        callWithAllTheRoom();
        callRefusedDoesNothing();
        runNumbers();
        runUnlessItStops();
        runOfNothing();
        stateOthers();
        stateOfTheCall();
        latestTrap();
        framesAndValuesWhenItGoesOn();
        stepsOfThisCall();
        stateOfWriting();
        results();
        resultsOfNone();
        globals();
        memoryEnds();
        memoryBytes();
        lookNumbers();
        lookAtWholeOnes();
        mostOperandsOfAllLabels();
        checks.end();
    }

    private static void newObject() {
        checks.sentence("No functions; the table is empty, globals are 0, the memory is 0");
        StackMachine m = new StackMachine();
        for (int what = 0; what <= 9; what++) checks.due("state " + what, m.state(what), 0);
        checks.due("no function 0", m.look(0, 0), -1);
        for (int k = 0; k <= 7; k++) checks.due("global " + k, m.global(k), 0);
        for (int k = 0; k <= 63; k++) checks.due("memory " + k, m.memory(k), 0);
        int f = Programs.write(m, 1, 0, 0, op(32, 0), op(17));
        for (int k = 0; k <= 29; k++) {
            Programs.finish(m, f, k);
            checks.due("entry " + k, m.state(1), 7);
        }
    }

    private static void functionNumbers() {
        checks.sentence("Begins to write a function: its number");
        StackMachine m = new StackMachine();
        checks.due("the first", m.function(0, 0, 0), 0);
        accepted(m, 11);
        checks.due("the second", m.function(8, 8, 8), 1);
        m.drop();
        checks.due("the second again", m.function(0, 0, 0), 1);
    }

    private static void functionWhileOneIsWritten() {
        checks.sentence("-1, doing nothing, when one is written");
        StackMachine m = new StackMachine();
        m.function(0, 1, 0);
        push(m, 2);
        checks.due("a second", m.function(8, 0, 8), -1);
        shape(m, 1, 2, 0);
        checks.due("functions", m.state(5), 1);
        accepted(m, 26);
        accepted(m, 11);
        checks.due("parameters of the first", m.look(0, 0), 0);
        checks.due("when none is", m.function(8, 0, 8), 1);
    }

    private static void functionRefused() {
        checks.sentence("-1, doing nothing, when .. a number is not 0 .. 8");
        StackMachine m = new StackMachine();
        int[] wrong = {-1, 9, LEAST, MOST};
        for (int n : wrong) {
            checks.due("parameters", m.function(n, 8, 8), -1);
            checks.due("results", m.function(8, n, 8), -1);
            checks.due("locals", m.function(8, 8, n), -1);
        }
        for (int what = 5; what <= 9; what++) checks.due("state " + what, m.state(what), 0);
        checks.due("none is given up", m.drop(), false);
        checks.due("8 each", m.function(8, 8, 8), 0);
    }

    private static void codeCountsAll() {
        checks.sentence("Writes an instruction: how many there are in all");
        StackMachine m = new StackMachine();
        m.function(0, 0, 0);
        checks.due("the first", m.code(1, 0, 0), 1);
        checks.due("its END", m.code(11, 0, 0), 2);
        m.function(0, 0, 0);
        checks.due("of another", m.code(1, 0, 0), 3);
        m.drop();
        m.function(0, 0, 0);
        checks.due("behind those that are gone", m.code(11, 0, 0), 3);
    }

    private static void codeRefused() {
        checks.sentence("-1, doing nothing, when none is written, it is not as said");
        StackMachine m = new StackMachine();
        checks.due("none is written", m.code(1, 0, 0), -1);
        checks.due("instructions", m.state(6), 0);
        m.function(0, 0, 0);
        // Just the numbers beside those of the list.
        int[] unknown = {-1, 7, 10, 18, 25, 28, 31, 37, 39, 67, 68, 74, 79, 82, 84, 105, 109, 111, 112, 114, 115, 117,
            123, 127, 166, 168, 172, 174, LEAST, MOST};
        push(m, 4);
        for (int operation : unknown) refused(m, operation);
        shape(m, 1, 4, 0);
        int[] known = {1, 27, 65, 62, 65, 65, 65, 66, 73, 69, 80, 83, 65, 108, 65, 110, 65, 113, 65, 116, 65, 126, 167, 173};
        for (int operation : known) accepted(m, operation);
    }

    private static void drop() {
        checks.sentence("The function that is written is given up; its instructions are gone: true");
        StackMachine m = new StackMachine();
        Programs.write(m, 0, 1, 0, op(65, 4));
        m.function(0, 0, 0);
        checks.due("without instructions", m.drop(), true);
        checks.due("instructions", m.state(6), 2);
        m.function(0, 0, 0);
        Programs.add(m, op(2), op(65, 0), op(14, 1), op(6));
        checks.due("amid a table", m.drop(), true);
        checks.due("functions", m.state(5), 1);
        checks.due("instructions", m.state(6), 2);
        shape(m, 0, 0, 0);
        m.function(0, 0, 0);
        accepted(m, 1);
        shape(m, 1, 0, 0);
        m.drop();
        Programs.finish(m, 0);
        checks.due("the whole one stays", m.result(0), 4);
    }

    private static void dropOfTheFortieth() {
        checks.sentence("The function that is written is given up");
        StackMachine m = new StackMachine();
        for (int i = 0; i < 39; i++) Programs.write(m, 0, 0, 0);
        m.function(0, 0, 0);
        checks.due("functions", m.state(5), 40);
        checks.due("the fortieth", m.drop(), true);
        checks.due("functions", m.state(5), 39);
        checks.due("it can be begun again", m.function(0, 0, 0), 39);
        m.drop();
        checks.due("the one ahead of it stays", m.call(38), true);
        checks.due("it is gone itself", m.call(39), false);
    }

    private static void dropOfNone() {
        checks.sentence("false when none is written");
        StackMachine m = new StackMachine();
        checks.due("at first", m.drop(), false);
        m.function(0, 0, 0);
        checks.due("one is", m.drop(), true);
        checks.due("none any more", m.drop(), false);
        Programs.write(m, 0, 0, 0);
        checks.due("a whole one is not", m.drop(), false);
        checks.due("functions", m.state(5), 1);
    }

    private static void entryNumbers() {
        checks.sentence("false when k is not 0 .. 29");
        StackMachine m = new StackMachine();
        int f = Programs.write(m, 0, 0, 0);
        for (int k : new int[] {-1, 30, LEAST, MOST}) {
            checks.due("entry " + k, m.entry(k, f), false);
            checks.due("entry " + k + ", none", m.entry(k, -1), false);
        }
        for (int k : new int[] {0, 29}) {
            checks.due("entry " + k, m.entry(k, f), true);
            checks.due("entry " + k + ", none", m.entry(k, -1), true);
        }
    }

    private static void entryOfWholeOnes() {
        checks.sentence("or there is no such whole function");
        StackMachine m = new StackMachine();
        checks.due("no function at all", m.entry(0, 0), false);
        int five = Programs.write(m, 0, 1, 0, op(65, 5));
        int caller = Programs.write(m, 0, 1, 0, op(65, 0), op(17, 0, 1));
        checks.due("set", m.entry(0, five), true);
        for (int f : new int[] {-2, 2, 39, 40, LEAST, MOST}) checks.due("function " + f, m.entry(0, f), false);
        m.function(0, 1, 0);
        Programs.add(m, op(65, 6));
        checks.due("one that is written", m.entry(0, 2), false);
        Programs.finish(m, caller);
        checks.due("refused ones did nothing", m.result(0), 5);
        accepted(m, 11);
        checks.due("now it is whole", m.entry(0, 2), true);
        Programs.finish(m, caller);
        checks.due("from now on", m.result(0), 6);
    }

    private static void entryOfNone() {
        checks.sentence("or, for -1, none");
        StackMachine m = new StackMachine();
        checks.due("of an empty one", m.entry(29, -1), true);
        int f = Programs.write(m, 0, 0, 0);
        int caller = Programs.write(m, 0, 0, 0, op(65, 29), op(17));
        m.entry(28, f);
        m.entry(29, f);
        checks.due("none", m.entry(29, -1), true);
        Programs.finish(m, caller);
        checks.due("trap", m.state(1), 7);
        m.entry(29, f);
        m.entry(28, -1);
        Programs.finish(m, caller);
        checks.due("its neighbour", m.state(0), 2);
    }

    private static void arguments() {
        checks.sentence("An argument more for the next call: how many there are");
        StackMachine m = new StackMachine();
        for (int i = 1; i <= 8; i++) checks.due("argument " + i, m.argument(Long.MIN_VALUE), i);
    }

    private static void argumentBeyond8() {
        checks.sentence("-1, doing nothing, when there are 8");
        StackMachine m = new StackMachine();
        int[][] all = new int[8][];
        for (int i = 0; i < 8; i++) all[i] = op(32, i);
        int f = Programs.write(m, 8, 8, 0, all);
        for (int i = 0; i < 8; i++) m.argument(100 + i);
        checks.due("a ninth", m.argument(999), -1);
        checks.due("again", m.argument(998), -1);
        checks.due("called", m.call(f), true);
        m.run(8);
        for (int i = 0; i < 8; i++) checks.due("argument " + i, m.result(i), 100 + i);
        checks.due("they are gone", m.argument(1), 1);
    }

    private static void callOfWholeOnes() {
        checks.sentence("False, doing nothing, when there is no such one");
        StackMachine m = new StackMachine();
        checks.due("no function at all", m.call(0), false);
        Programs.write(m, 0, 0, 0, op(1));
        m.function(0, 0, 0);
        for (int f : new int[] {-1, 1, 2, 39, 40, LEAST, MOST}) checks.due("call(" + f + ")", m.call(f), false);
        checks.due("nothing was called", m.state(0), 0);
        checks.due("the one there is", m.call(0), true);
        checks.due("it goes on", m.state(0), 1);
        accepted(m, 11);
        checks.due("whole now", m.call(1), true);
        checks.due("ended", m.state(0), 2);
    }

    private static void callWithJustSoMany() {
        checks.sentence("or it has not just so many parameters");
        for (int parameters = 0; parameters <= 8; parameters++) {
            for (int given = Math.max(0, parameters - 1); given <= Math.min(8, parameters + 1); given++) {
                StackMachine m = new StackMachine();
                int f = Programs.write(m, parameters, 0, 0, op(1));
                for (int i = 0; i < given; i++) m.argument(i);
                boolean alike = given == parameters;
                checks.due(given + " for " + parameters, m.call(f), alike);
                checks.due("state", m.state(0), alike ? 1 : 0);
                checks.due("they are gone only by a call", m.argument(1), alike ? 1 : given == 8 ? -1 : given + 1);
            }
        }
    }

    private static void callWhateverWasRun() {
        checks.sentence("whatever was run before: true");
        StackMachine m = new StackMachine();
        int traps = Programs.write(m, 0, 0, 0, op(0));
        int endless = Programs.write(m, 0, 0, 0, op(16, 1));
        int fine = Programs.write(m, 1, 1, 1, op(32, 0), op(32, 1), op(106));
        int[] stepsAhead = {1, 30, 7, 3};
        int[] ahead = {traps, endless, endless, fine};
        int[] states = {3, 4, 1, 2};
        for (int i = 0; i < ahead.length; i++) {
            if (ahead[i] == fine) m.argument(9);
            m.call(ahead[i]);
            m.run(stepsAhead[i]);
            checks.due("before", m.state(0), states[i]);
            m.argument(41);
            checks.due("called", m.call(fine), true);
            checks.due("it goes on", m.state(0), 1);
            checks.due("one frame", m.state(2), 1);
            checks.due("its locals", m.state(3), 2);
            checks.due("no step", m.state(4), 0);
            checks.due("run", m.run(2000), 3);
            checks.due("result", m.result(0), 41);
        }
    }

    private static void callWithAllTheRoom() {
        checks.sentence("whatever was run before");
        StackMachine m = new StackMachine();
        int deep = Programs.write(m, 0, 0, 7, op(16, 0));
        m.function(0, 0, 0);
        push(m, 220);
        Programs.add(m, op(15), op(11));
        for (int steps = 28; steps <= 30; steps++) {
            m.call(deep);
            m.run(steps);
            checks.due("many frames, or too many", m.state(2), steps < 30 ? steps + 1 : 0);
            checks.due("called", m.call(1), true);
            checks.due("those before ask for nothing more", m.state(0), 1);
            checks.due("run", m.run(2000), 221);
        }
    }

    private static void callRefusedDoesNothing() {
        checks.sentence("False, doing nothing");
        StackMachine m = new StackMachine();
        int f = Programs.write(m, 0, 1, 2, op(65, 3), op(65, 4), op(106));
        m.call(f);
        m.run(2);
        m.argument(5);
        checks.due("refused", m.call(f), false);
        int[] want = {1, 0, 1, 4, 2};
        for (int what = 0; what <= 4; what++) checks.due("state " + what, m.state(what), want[what]);
        checks.due("it goes on as before", m.run(9), 1);
        checks.due("result", m.result(0), 7);
        checks.due("refused", m.call(f), false);
        checks.due("the result stays", m.result(0), 7);
        checks.due("the argument stays", m.argument(6), 2);
    }

    private static void runNumbers() {
        checks.sentence("-1 when n is not 0 .. 2000");
        StackMachine m = new StackMachine();
        int endless = Programs.write(m, 0, 0, 0, op(3), op(12), op(11));
        for (int i = 0; i <= 1; i++) {
            for (int n : new int[] {-1, 2001, LEAST, MOST}) checks.due("run(" + n + ")", m.run(n), -1);
            checks.due("no step", m.state(4), 0);
            checks.due("run(0)", m.run(0), 0);
            checks.due("no step", m.state(4), 0);
            checks.due("run(2000)", m.run(2000), i == 0 ? 0 : 2000);
            m.call(endless);
        }
        m.run(1999);
        checks.due("steps", m.state(4), 1999);
        checks.due("run(1)", m.run(1), 1);
        checks.due("steps", m.state(4), 2000);
    }

    private static void runUnlessItStops() {
        checks.sentence("n steps, unless it stops: how many");
        StackMachine m = new StackMachine();
        int f = Programs.write(m, 0, 0, 0, repeated(op(1), 10));
        for (int n = 9; n <= 11; n++) {
            m.call(f);
            checks.due("run(" + n + ")", m.run(n), Math.min(n, 10));
            checks.due("state", m.state(0), n < 10 ? 1 : 2);
            checks.due("what is left", m.run(5), n < 10 ? 1 : 0);
        }
        int[] pieces = {0, 1, 2, 3, 0, 3, 9};
        int[] done = {0, 1, 2, 3, 0, 3, 1};
        m.call(f);
        for (int i = 0; i < pieces.length; i++) checks.due("piece " + i, m.run(pieces[i]), done[i]);
    }

    private static void runOfNothing() {
        checks.sentence("n steps, unless it stops");
        StackMachine m = new StackMachine();
        int traps = Programs.write(m, 0, 0, 0, op(1), op(0), op(1));
        checks.due("nothing was called", m.run(2000), 0);
        m.call(traps);
        checks.due("up to the trap", m.run(2), 2);
        checks.due("behind the trap", m.run(2), 0);
        checks.due("steps", m.state(4), 2);
        checks.due("a wrong number all the same", m.run(2001), -1);
    }

    private static void stateOthers() {
        checks.sentence("-1 for others");
        StackMachine m = new StackMachine();
        for (int what : new int[] {-1, 11, 12, LEAST, MOST}) checks.due("state " + what, m.state(what), -1);
        checks.due("state 0", m.state(0), 0);
        checks.due("state 10", m.state(10), 1);
    }

    private static void stateOfTheCall() {
        checks.sentence("0 nothing was called, 1 it goes on, 2 it has ended, 3 it TRAPPED, 4 it is EXHAUSTED");
        StackMachine m = new StackMachine();
        int one = Programs.write(m, 0, 0, 0, op(1));
        int traps = Programs.write(m, 0, 0, 0, op(0));
        int endless = Programs.write(m, 0, 0, 0, op(16, 2));
        checks.due("at first", m.state(0), 0);
        m.call(one);
        checks.due("called", m.state(0), 1);
        m.run(0);
        checks.due("by no step", m.state(0), 1);
        m.run(1);
        checks.due("by its last step", m.state(0), 2);
        m.call(traps);
        checks.due("called", m.state(0), 1);
        m.run(1);
        checks.due("trapped", m.state(0), 3);
        m.call(endless);
        m.run(29);
        checks.due("by 29 calls", m.state(0), 1);
        m.run(1);
        checks.due("by 30", m.state(0), 4);
    }

    private static void latestTrap() {
        checks.sentence("1 the latest TRAP (0: none)");
        StackMachine m = new StackMachine();
        int leaf = Programs.write(m, 0, 0, 0);
        int[] each = {
            Programs.write(m, 0, 0, 0, op(0)),
            Programs.write(m, 0, 0, 0, op(65, 64), op(45), op(26)),
            Programs.write(m, 0, 0, 0, op(65, 30), op(17)),
            Programs.write(m, 0, 0, 0, op(65, 29), op(17)),
            Programs.write(m, 0, 1, 0, op(65, 0), op(17, 0, 1)),
            Programs.write(m, 0, 0, 0, op(65), op(65), op(110), op(26))
        };
        int[] want = {1, 4, 6, 7, 8, 11};
        m.entry(0, leaf);
        checks.due("none", m.state(1), 0);
        m.call(leaf);
        checks.due("none by a call that ended", m.state(1), 0);
        for (int i = 0; i < each.length; i++) {
            Programs.finish(m, each[i]);
            checks.due("state", m.state(0), 3);
            checks.due("trap", m.state(1), want[i]);
        }
        m.call(leaf);
        checks.due("it is the latest still", m.state(1), 11);
    }

    private static void framesAndValuesWhenItGoesOn() {
        checks.sentence("2 frames, 3 values (0 when it doesn't go on)");
        StackMachine m = new StackMachine();
        int f = Programs.write(m, 1, 1, 2, op(65, 1), op(65, 2), op(107));
        int traps = Programs.write(m, 0, 0, 2, op(65, 1), op(65, 2), op(0));
        int endless = Programs.write(m, 0, 0, 2, op(65, 1), op(16, 2), op(26));
        Programs.call(m, f, 5);
        int[] values = {3, 4, 5, 0};
        for (int i = 0; i <= 3; i++) {
            checks.due("frames behind step " + i, m.state(2), i < 3 ? 1 : 0);
            checks.due("values behind step " + i, m.state(3), values[i]);
            m.run(1);
        }
        m.call(traps);
        m.run(2);
        checks.due("values", m.state(3), 4);
        m.run(1);
        checks.due("frames", m.state(2), 0);
        checks.due("values", m.state(3), 0);
        m.call(endless);
        m.run(59);
        checks.due("frames", m.state(2), 30);
        checks.due("values", m.state(3), 90);
        m.run(1);
        checks.due("frames", m.state(2), 0);
        checks.due("values", m.state(3), 0);
    }

    private static void stepsOfThisCall() {
        checks.sentence("4 steps of this call");
        StackMachine m = new StackMachine();
        int f = Programs.write(m, 0, 0, 0, repeated(op(1), 5));
        checks.due("at first", m.state(4), 0);
        m.call(f);
        m.run(2);
        m.run(2);
        checks.due("of two pieces", m.state(4), 4);
        m.run(2000);
        checks.due("all", m.state(4), 5);
        m.call(f);
        checks.due("of the next call", m.state(4), 0);
    }

    private static void stateOfWriting() {
        checks.sentence("7 labels of the function that is written (0 when none is), 8 operands in its innermost one "
                + "(above the height, those that a dead one only asks for not counted), 9 1 if that is dead");
        StackMachine m = new StackMachine();
        shape(m, 0, 0, 0);
        m.function(2, 0, 0);
        shape(m, 1, 0, 0);
        push(m, 3);
        shape(m, 1, 3, 0);
        accepted(m, 2, 2, 0);
        shape(m, 2, 2, 0);
        accepted(m, 12, 1, 0);
        shape(m, 2, 0, 1);
        accepted(m, 106);
        shape(m, 2, 1, 1);
        accepted(m, 26);
        accepted(m, 26);
        shape(m, 2, 0, 1);
        accepted(m, 11);
        shape(m, 1, 1, 0);
        accepted(m, 0);
        shape(m, 1, 0, 1);
        accepted(m, 11);
        shape(m, 0, 0, 0);
    }

    private static void results() {
        checks.sentence("Result k of the call that ended");
        for (int n = 0; n <= 8; n++) {
            StackMachine m = new StackMachine();
            m.function(0, n, 8);
            for (int i = 0; i < n; i++) Programs.add(m, Programs.put(-1 - i));
            Programs.add(m, op(15), op(11));
            Programs.finish(m, 0);
            checks.due("result -1", m.result(-1), 0);
            for (int k = 0; k <= 9; k++) checks.due("result " + k + " of " + n, m.result(k), k < n ? -1 - k : 0);
            checks.due("the least", m.result(LEAST), 0);
            checks.due("the most", m.result(MOST), 0);
        }
    }

    private static void resultsOfNone() {
        checks.sentence("0 if there is none");
        StackMachine m = new StackMachine();
        int f = Programs.write(m, 0, 1, 0, op(65, 6), op(1));
        int traps = Programs.write(m, 0, 1, 0, op(65, 6), op(0));
        int endless = Programs.write(m, 0, 1, 0, op(65, 6), op(26), op(16, 2));
        checks.due("nothing was called", m.result(0), 0);
        m.call(f);
        m.run(1);
        checks.due("it has not ended", m.result(0), 0);
        m.run(1);
        checks.due("it has", m.result(0), 6);
        m.call(f);
        checks.due("another has begun", m.result(0), 0);
        Programs.finish(m, traps);
        checks.due("trapped", m.result(0), 0);
        Programs.finish(m, endless);
        checks.due("exhausted", m.result(0), 0);
    }

    private static void globals() {
        checks.sentence("A global; 0 when there is none");
        StackMachine m = new StackMachine();
        m.function(0, 0, 0);
        for (int k = 0; k <= 7; k++) Programs.add(m, Programs.put(-1 - k), op(36, k));
        Programs.add(m, op(11));
        Programs.finish(m, 0);
        for (int k = 0; k <= 7; k++) checks.due("global " + k, m.global(k), -1 - k);
        for (int k : new int[] {-1, 8, LEAST, MOST}) checks.due("global " + k, m.global(k), 0);
    }

    private static void memoryEnds() {
        checks.sentence("-1 when there is none");
        StackMachine m = new StackMachine();
        int grow = Programs.write(m, 0, 0, 0, op(65, 1), op(64), op(26));
        for (int pages = 1; pages <= 6; pages++) {
            checks.due("the first", m.memory(0), 0);
            checks.due("the last", m.memory(64 * pages - 1), 0);
            checks.due("behind it", m.memory(64 * pages), -1);
            for (int address : new int[] {-1, LEAST, MOST}) checks.due("memory " + address, m.memory(address), -1);
            Programs.finish(m, grow);
        }
        checks.due("no seventh page", m.memory(384), -1);
    }

    private static void memoryBytes() {
        checks.sentence("A byte of the memory");
        StackMachine m = new StackMachine();
        int store = Programs.write(m, 1, 0, 0, op(65, 63), op(32, 0), op(58));
        int[] bytes = {0, 1, 127, 128, 255};
        for (int v : bytes) {
            Programs.finish(m, store, v);
            checks.due("byte " + v, m.memory(63), v);
        }
        Programs.finish(m, store, 256);
        checks.due("its lowest bits", m.memory(63), 0);
    }

    private static void lookNumbers() {
        checks.sentence("-1 when there is none, or what is another");
        StackMachine m = new StackMachine();
        Programs.write(m, 1, 2, 3, op(65), op(65), op(65), op(65), op(15));
        for (int what = 0; what <= 3; what++) checks.due("look(0, " + what + ")", m.look(0, what), what + 1);
        for (int what : new int[] {-1, 4, LEAST, MOST}) checks.due("look(0, " + what + ")", m.look(0, what), -1);
        for (int f : new int[] {-1, 1, 39, 40, LEAST, MOST}) {
            for (int what = 0; what <= 3; what++) checks.due("look(" + f + ", " + what + ")", m.look(f, what), -1);
        }
    }

    private static void lookAtWholeOnes() {
        checks.sentence("Of a whole function");
        StackMachine m = new StackMachine();
        m.function(8, 0, 8);
        for (int what = 0; what <= 3; what++) checks.due("it is written", m.look(0, what), -1);
        accepted(m, 11);
        int[] want = {8, 0, 8, 0};
        for (int what = 0; what <= 3; what++) checks.due("it is whole", m.look(0, what), want[what]);
        m.function(1, 1, 1);
        m.drop();
        checks.due("it is given up", m.look(1, 0), -1);
    }

    private static void most(int want, int results, int[]... code) {
        StackMachine m = new StackMachine();
        Programs.write(m, 8, results, 8, code);
        checks.due("most operands", m.look(0, 3), want);
    }

    private static void mostOperandsOfAllLabels() {
        checks.sentence("3 the most operands that it ever has (of all its labels together)");
        most(0, 0);
        most(1, 0, op(65), op(26), op(65), op(26));
        most(2, 0, op(65), op(65), op(106), op(26));
        most(4, 0, op(65), op(65), op(2, 1, 0), op(65), op(2), op(65), op(26), op(11), op(26), op(26), op(11), op(26));
        most(1, 0, op(65), op(4), op(11));
        most(3, 0, op(65), op(4), op(5), op(65), op(65), op(65), op(15), op(11));
        most(9, 0, op(65), op(65), op(17, 1, 8), op(65), op(15));
        most(0, 8, op(0));
        most(7, 8, op(0), op(65), op(65), op(65), op(65), op(65), op(65), op(65));
        most(4, 8, op(2, 0, 4), op(0), op(11), op(0));
    }
}
