/** The boundary cases of the operations 0 to 17: how they are written, and where they go. */
public final class EdgesOfControlTest extends Edges {
    private static final long[] FALSES = {0, 1L << 32, Long.MIN_VALUE, 0xFFFFFFFF00000000L};
    private static final long[] TRUES = {1, -1, 0x80000000L, LOW, (1L << 32) + 1};

    public static void main(String[] args) {
        checks = new Checks("edges of control");
        trap();
        labelsFrom0To4();
        labelsTakeParameters();
        ifGoesByItsOperand();
        elseInAnIf();
        elseOnce();
        elseAsksWhatEndAsks();
        elseOpens();
        endHasJustResults();
        endOfTheDead();
        endPutsResults();
        ifWithoutElse();
        endOfLabel0();
        branch();
        branchLeavesWhatIsWanted();
        branchLeavesTheLocals();
        branchIf();
        branchIfNotZero();
        tableOf0To20();
        tableTakesOne();
        entriesFollow();
        entriesToLabels();
        entriesWantAlike();
        entriesWantNoneAlike();
        entriesFindWhatTheyWant();
        tableGoes();
        tableOfOne();
        deadBehindTheTable();
        returns();
        callOfThoseThereAre();
        callTakesAndPuts();
        callByTableFrom0To8();
        callByTableTakes();
        indexBelow30();
        noneThere();
        justSoMany();
        checks.end();
    }

    private static void trap() {
        checks.sentence("0 TRAPS (1); the label is dead behind it");
        checks.due("trap", Programs.trapOf(op(0)), 1);
        checks.due("nothing is none", Programs.trapOf(op(1)), 0);
        StackMachine m = draft(0, 1);
        accepted(m, 0);
        shape(m, 1, 0, 1);
    }

    private static void labelsFrom0To4() {
        checks.sentence("begin a label with a parameters, b results (0 .. 4 each)");
        for (int kind : LABELS) {
            for (int n = -1; n <= 5; n++) {
                boolean asSaid = n >= 0 && n <= 4;
                either(asSaid, draft(0, 6), kind, n, 0);
                either(asSaid, draft(0, 6), kind, n, 4);
                either(asSaid, draft(0, 6), kind, 0, n);
                either(asSaid, draft(0, 6), kind, 4, n);
            }
            for (int n : new int[] {LEAST, MOST}) {
                refused(draft(0, 6), kind, n, 0);
                refused(draft(0, 6), kind, 0, n);
            }
        }
    }

    private static void labelsTakeParameters() {
        checks.sentence("4 IF (takes one more first) begin a label .. and take and put the parameters");
        for (int kind : LABELS) {
            for (int a = 0; a <= 4; a++) {
                int taken = kind == 4 ? a + 1 : a;
                if (taken > 0) refused(draft(0, taken - 1), kind, a, 0);
                StackMachine m = draft(0, taken + 1);
                accepted(m, kind, a, 0);
                shape(m, 2, a, 0);
                for (int i = 0; i < a; i++) accepted(m, 26);
                refused(m, 26);
            }
        }
    }

    private static void ifGoesByItsOperand() {
        checks.sentence("4 IF (takes one more first)");
        int[][] arms = {op(4, 0, 1), op(65, 1), op(5), op(65, 0), op(11)};
        for (long v : FALSES) checks.due("IF " + v, Programs.valueOf(Programs.put(v), arms[0], arms[1], arms[2], arms[3], arms[4]), 0);
        for (long v : TRUES) checks.due("IF " + v, Programs.valueOf(Programs.put(v), arms[0], arms[1], arms[2], arms[3], arms[4]), 1);
    }

    private static void elseInAnIf() {
        checks.sentence("5 ELSE, in a label that 4 began");
        refused(draft(0, 0), 5);
        for (int kind : LABELS) {
            StackMachine m = draft(0, 1);
            accepted(m, kind);
            either(kind == 4, m, 5, 0, 0);
        }
        for (int kind = 2; kind <= 3; kind++) {
            StackMachine m = draft(0, 1);
            accepted(m, 4);
            accepted(m, kind);
            refused(m, 5);
            accepted(m, 11);
            accepted(m, 5);
        }
    }

    private static void elseOnce() {
        checks.sentence("and that has no ELSE yet");
        StackMachine m = draft(0, 2);
        accepted(m, 4);
        accepted(m, 5);
        refused(m, 5);
        accepted(m, 0);
        refused(m, 5);
        push(m, 1);
        accepted(m, 4);
        accepted(m, 5);
        refused(m, 5);
        accepted(m, 11);
        refused(m, 5);
        accepted(m, 11);
        refused(m, 5);
    }

    private static void elseAsksWhatEndAsks() {
        checks.sentence("what END asks, then");
        for (int results = 0; results <= 4; results++) {
            for (int own = 0; own <= 5; own++) {
                StackMachine m = draft(0, 1);
                accepted(m, 4, 0, results);
                push(m, own);
                either(own == results, m, 5, 0, 0);
                m = draft(0, 1);
                accepted(m, 4, 0, results);
                accepted(m, 0);
                push(m, own);
                either(own <= results, m, 5, 0, 0);
            }
        }
    }

    private static void elseOpens() {
        checks.sentence("then the label is as at its beginning, and open");
        for (int parameters = 0; parameters <= 4; parameters++) {
            StackMachine m = draft(0, 7);
            accepted(m, 4, parameters, 2);
            accepted(m, 0);
            accepted(m, 5);
            shape(m, 2, parameters, 0);
            for (int i = 0; i < parameters; i++) accepted(m, 26);
            refused(m, 26);
            push(m, 2);
            accepted(m, 11);
            shape(m, 1, 7 - 1 - parameters + 2, 0);
        }
    }

    private static void endHasJustResults() {
        checks.sentence("11 END: the label has just its results as operands");
        for (int results = 0; results <= 8; results++) {
            for (int own = Math.max(0, results - 1); own <= results + 1; own++) {
                either(own == results, draft(results, own), 11, 0, 0);
                if (results > 4) continue;
                for (int kind = 2; kind <= 3; kind++) {
                    StackMachine m = draft(0, 6);
                    accepted(m, kind, 0, results);
                    push(m, own);
                    either(own == results, m, 11, 0, 0);
                }
            }
        }
    }

    private static void endOfTheDead() {
        checks.sentence("(in a dead one: not more; what is missing is there)");
        for (int results = 0; results <= 8; results++) {
            for (int own = 0; own <= results + 1; own++) {
                StackMachine m = draft(results, 9);
                accepted(m, 0);
                push(m, own);
                either(own <= results, m, 11, 0, 0);
                if (results > 4) continue;
                m = draft(0, 0);
                accepted(m, 2, 0, results);
                accepted(m, 0);
                push(m, own);
                either(own <= results, m, 11, 0, 0);
                if (own <= results) shape(m, 1, results, 0);
            }
        }
    }

    private static void endPutsResults() {
        checks.sentence("it is over, and its results are put");
        for (int results = 0; results <= 4; results++) {
            StackMachine m = draft(0, 3);
            accepted(m, 2, 1, results);
            accepted(m, 26);
            push(m, results);
            shape(m, 2, results, 0);
            accepted(m, 11);
            shape(m, 1, 2 + results, 0);
        }
    }

    private static void ifWithoutElse() {
        checks.sentence("An IF without ELSE has as many parameters as results");
        for (int parameters = 0; parameters <= 4; parameters++) {
            for (int results = 0; results <= 4; results++) {
                StackMachine m = draft(0, parameters + 1);
                accepted(m, 4, parameters, results);
                for (int i = parameters; i > results; i--) accepted(m, 26);
                for (int i = parameters; i < results; i++) push(m, 1);
                either(parameters == results, m, 11, 0, 0);
                m = draft(0, parameters + 1);
                accepted(m, 4, parameters, results);
                accepted(m, 0);
                either(parameters == results, m, 11, 0, 0);
                m = draft(0, parameters + 1);
                accepted(m, 4, parameters, results);
                accepted(m, 0);
                accepted(m, 5);
                accepted(m, 0);
                accepted(m, 11);
            }
        }
        for (int c = 0; c <= 1; c++) {
            long got = Programs.valueOf(op(65, 6), op(65, c), op(4, 1, 1), op(65, 1), op(106), op(11));
            checks.due("its parameter, or its result", got, 6 + c);
        }
    }

    private static void endOfLabel0() {
        checks.sentence("END of label 0 ends the function");
        StackMachine m = draft(0, 0);
        accepted(m, 2);
        accepted(m, 11);
        checks.due("not that of label 1", m.look(0, 0), -1);
        shape(m, 1, 0, 0);
        accepted(m, 11);
        checks.due("it is whole", m.look(0, 0), 0);
        shape(m, 0, 0, 0);
        checks.due("none is written", m.code(1, 0, 0), -1);
        checks.due("nor given up", m.drop(), false);
    }

    private static void branch() {
        checks.sentence("12 BRANCH to label a: takes what that wants; dead");
        for (int wanted = 0; wanted <= 8; wanted++) {
            if (wanted > 0) refused(draft(wanted, wanted - 1), 12);
            for (int own = wanted; own <= wanted + 1; own++) {
                StackMachine m = draft(wanted, own);
                accepted(m, 12);
                shape(m, 1, 0, 1);
            }
        }
    }

    private static void branchLeavesWhatIsWanted() {
        checks.sentence("each branch knowing where it goes and what it leaves");
        for (int more = 0; more <= 3; more++) {
            StackMachine m = draft(3, 0);
            Programs.add(m, op(65, 9), op(2, 0, 2));
            push(m, more);
            Programs.add(m, op(65, 7), op(65, 8), op(12), op(11), op(11));
            checks.due("steps", Programs.finish(m, 0), more + 4);
            checks.due("what was below", m.result(0), 9);
            checks.due("what is left", m.result(1), 7);
            checks.due("what is left", m.result(2), 8);
        }
    }

    private static void branchLeavesTheLocals() {
        checks.sentence("each branch knowing where it goes and what it leaves");
        for (int locals = 0; locals <= 8; locals += 4) {
            StackMachine m = new StackMachine();
            int f = m.function(1, 3, locals);
            Programs.add(m, op(65, 9), op(2, 0, 1), op(65, 1), op(65, 2), op(12), op(11), op(32, 0), op(11));
            checks.due("steps", Programs.finish(m, f, 5), 5);
            int[] want = {9, 2, 5};
            for (int k = 0; k < 3; k++) checks.due("result " + k, m.result(k), want[k]);
        }
    }

    private static void branchIf() {
        checks.sentence("13 likewise, if the one taken first is not 0 (32 bits), puts them again");
        for (int wanted = 0; wanted <= 8; wanted++) {
            refused(draft(wanted, wanted), 13);
            for (int more = 0; more <= 1; more++) {
                StackMachine m = draft(wanted, wanted + 1 + more);
                accepted(m, 13);
                shape(m, 1, wanted + more, 0);
            }
        }
        StackMachine m = draft(0, 1);
        refused(m, 13, -1, 0);
        refused(m, 13, 1, 0);
        refused(m, 13, LEAST, 0);
        refused(m, 13, MOST, 0);
        accepted(m, 13, 0, 0);
    }

    private static void branchIfNotZero() {
        checks.sentence("if the one taken first is not 0 (32 bits)");
        for (long v : FALSES) checks.due("13 by " + v, Programs.valueOf(op(65, 1), Programs.put(v), op(13), op(26), op(65, 0)), 0);
        for (long v : TRUES) checks.due("13 by " + v, Programs.valueOf(op(65, 1), Programs.put(v), op(13), op(26), op(65, 0)), 1);
    }

    private static void tableOf0To20() {
        checks.sentence("14 TABLE of a (0 .. 20) branches and one more");
        for (int a = -1; a <= 21; a++) either(a >= 0 && a <= 20, draft(0, 1), 14, a, 0);
        refused(draft(0, 1), 14, LEAST, 0);
        refused(draft(0, 1), 14, MOST, 0);
    }

    private static void tableTakesOne() {
        checks.sentence("one more: takes one");
        refused(draft(0, 0), 14);
        StackMachine m = draft(0, 1);
        accepted(m, 14);
        checks.due("operands", m.state(8), 0);
        m = draft(0, 1);
        accepted(m, 2);
        refused(m, 14);
    }

    private static void entriesFollow() {
        checks.sentence("the a + 1 next instructions have to be 6 ENTRIES");
        refused(draft(0, 1), 6);
        for (int a = 0; a <= 20; a++) {
            StackMachine m = draft(0, 4);
            accepted(m, 14, a, 0);
            for (int i = 0; i <= a; i++) {
                checks.due("an entry is due", m.code(1, 0, 0), -1);
                accepted(m, 6);
            }
            refused(m, 6);
            accepted(m, 1);
        }
        // Nothing else, ahead of the first entry and of the last.
        StackMachine m = draft(0, 4);
        accepted(m, 14, 1, 0);
        for (int i = 0; i <= 1; i++) {
            for (int operation = -1; operation <= 174; operation++) {
                if (operation != 6) checks.due("code " + operation, m.code(operation, 0, 0), -1);
            }
            accepted(m, 6);
        }
        shape(m, 1, 0, 1);
    }

    private static void entriesToLabels() {
        checks.sentence("(to a label each; ");
        StackMachine m = draft(0, 1);
        accepted(m, 3);
        accepted(m, 2);
        push(m, 1);
        accepted(m, 14, 2, 0);
        int[] none = {-1, 3, LEAST, MOST};
        for (int i = 0; i <= 2; i++) {
            for (int a : none) refused(m, 6, a, 0);
            accepted(m, 6, i, 0);
        }
        shape(m, 3, 0, 1);
    }

    private static void entriesWantAlike() {
        checks.sentence("all want as many as the first of them)");
        for (int dead = 0; dead <= 1; dead++) {
            // Labels 0 .. 4 want 0, 1, 2, 1 (a loop's parameter) and 1 (the function's result).
            StackMachine m = draft(1, 1);
            accepted(m, 3, 1, 0);
            accepted(m, 2, 0, 2);
            accepted(m, 2, 0, 1);
            accepted(m, 2, 0, 0);
            push(m, 4);
            if (dead == 1) accepted(m, 0);
            accepted(m, 14, 3, 0);
            accepted(m, 6, 1, 0);
            for (int i = 0; i < 3; i++) {
                refused(m, 6, 0, 0);
                refused(m, 6, 2, 0);
                accepted(m, 6, i == 0 ? 1 : i + 2, 0);
            }
            shape(m, 5, 0, 1);
        }
    }

    private static void entriesWantNoneAlike() {
        checks.sentence("all want as many as the first of them");
        for (int first = 0; first <= 4; first++) {
            // Label k wants k, and label 5, the function's own, none.
            StackMachine m = draft(0, 0);
            for (int k = 4; k >= 0; k--) accepted(m, 2, 0, k);
            push(m, 6);
            accepted(m, 14, 1, 0);
            accepted(m, 6, first, 0);
            for (int k = 0; k <= 5; k++) if (k % 5 != first) refused(m, 6, k, 0);
            accepted(m, 6, first == 0 ? 5 : first, 0);
        }
    }

    private static void entriesFindWhatTheyWant() {
        checks.sentence("what has not its operands is refused as it comes");
        for (int wanted = 1; wanted <= 8; wanted++) {
            StackMachine m = draft(wanted, wanted);
            accepted(m, 14, 1, 0);
            refused(m, 6);
            m = draft(wanted, wanted + 1);
            accepted(m, 14, 1, 0);
            accepted(m, 6);
            accepted(m, 6);
            shape(m, 1, 0, 1);
        }
    }

    /** Twenty labels in one another; behind the end of label i, i is left in a global. */
    private static int writeTwenty(StackMachine m) {
        int f = m.function(1, 0, 0);
        Programs.add(m, op(65, 20), op(36, 0));
        Programs.add(m, repeated(op(2), 20));
        Programs.add(m, op(32, 0), op(14, 20));
        for (int i = 0; i <= 20; i++) Programs.add(m, op(6, i));
        for (int i = 0; i < 20; i++) Programs.add(m, op(11), op(65, i), op(36, 0), op(15));
        Programs.add(m, op(11));
        return f;
    }

    private static void tableGoes() {
        checks.sentence("it goes to the entry with the number taken (32 bits without sign), or the last one");
        StackMachine m = new StackMachine();
        int f = writeTwenty(m);
        for (int i = 0; i <= 22; i++) {
            Programs.finish(m, f, i);
            checks.due("number " + i, m.global(0), Math.min(i, 20));
        }
        long[] taken = {-1, 0x80000000L, 0x7FFFFFFFL, LOW, 1L << 32, (1L << 32) + 19, (5L << 32) + 21};
        int[] want = {20, 20, 20, 20, 0, 19, 20};
        for (int i = 0; i < taken.length; i++) {
            Programs.finish(m, f, taken[i]);
            checks.due("number " + taken[i], m.global(0), want[i]);
        }
    }

    private static void tableOfOne() {
        checks.sentence("TABLE of a (0 .. 20) branches and one more");
        StackMachine m = new StackMachine();
        int f = Programs.write(m, 1, 1, 0, op(2), op(32, 0), op(14, 0), op(6, 0), op(11), op(65, 4));
        for (long v : new long[] {0, 1, -1, 1L << 32}) {
            checks.due("steps", Programs.finish(m, f, v), 3);
            checks.due("by " + v, m.result(0), 4);
        }
    }

    private static void deadBehindTheTable() {
        checks.sentence("or the last one; dead");
        StackMachine m = draft(0, 5);
        accepted(m, 14, 1, 0);
        accepted(m, 6);
        checks.due("not ahead of the last entry", m.state(9), 0);
        accepted(m, 6);
        shape(m, 1, 0, 1);
    }

    private static void returns() {
        checks.sentence("15 RETURN: like a branch to the outermost label");
        for (int wanted = 0; wanted <= 8; wanted++) {
            StackMachine m = draft(wanted, 9);
            accepted(m, 3);
            accepted(m, 2);
            push(m, Math.max(0, wanted - 1));
            if (wanted > 0) {
                refused(m, 15);
                Programs.add(m, op(65, 77));
            }
            accepted(m, 15);
            shape(m, 3, 0, 1);
            Programs.add(m, op(11), op(11), op(0), op(11));
            Programs.finish(m, 0);
            checks.due("ended", m.state(0), 2);
            checks.due("the last result", m.result(wanted - 1), wanted > 0 ? 77 : 0);
        }
    }

    private static void callOfThoseThereAre() {
        checks.sentence("16 CALL of function a (below how many there are, the one that is written too)");
        StackMachine m = new StackMachine();
        m.function(0, 0, 0);
        refused(m, 16, 1, 0);
        refused(m, 16, -1, 0);
        accepted(m, 16, 0, 0);
        accepted(m, 11);
        refused(m, 16, 0, 0);
        m.function(0, 0, 0);
        accepted(m, 16, 0, 0);
        accepted(m, 16, 1, 0);
        refused(m, 16, 2, 0);
        refused(m, 16, LEAST, 0);
        refused(m, 16, MOST, 0);
        m.drop();
        m.function(0, 0, 0);
        refused(m, 16, 2, 0);
    }

    private static void callTakesAndPuts() {
        checks.sentence("takes its parameters, puts its results");
        for (int n = 0; n <= 8; n++) {
            StackMachine m = new StackMachine();
            int f = Programs.write(m, n, 8 - n, 0, op(0));
            m.function(0, 0, 0);
            push(m, Math.max(0, n - 1));
            if (n > 0) {
                refused(m, 16, f, 0);
                push(m, 1);
            }
            accepted(m, 16, f, 0);
            shape(m, 1, 8 - n, 0);
            push(m, n + 2);
            accepted(m, 16, f, 0);
            shape(m, 1, 8 - n + 2 + 8 - n, 0);
        }
    }

    private static void callByTableFrom0To8() {
        checks.sentence("then a parameters, puts b results (0 .. 8 each)");
        for (int n = -1; n <= 9; n++) {
            either(n >= 0 && n <= 8, draft(0, 11), 17, n, 0);
            either(n >= 0 && n <= 8, draft(0, 11), 17, n, 8);
            either(n >= 0 && n <= 8, draft(0, 11), 17, 0, n);
            either(n >= 0 && n <= 8, draft(0, 11), 17, 8, n);
        }
        for (int n : new int[] {LEAST, MOST}) {
            refused(draft(0, 11), 17, n, 0);
            refused(draft(0, 11), 17, 0, n);
        }
    }

    private static void callByTableTakes() {
        checks.sentence("17 takes an index (32 bits without sign), then a parameters");
        for (int a = 0; a <= 8; a++) {
            refused(draft(0, a), 17, a, 0);
            for (int more = 0; more <= 2; more++) {
                StackMachine m = draft(0, a + 1 + more);
                accepted(m, 17, a, 8 - a);
                shape(m, 1, 8 - a + more, 0);
            }
        }
    }

    private static void indexBelow30() {
        checks.sentence("TRAPS 6 if it is not below 30");
        StackMachine m = new StackMachine();
        int leaf = Programs.write(m, 0, 0, 0);
        int caller = Programs.write(m, 1, 0, 0, op(32, 0), op(17, 0, 0));
        for (int k = 0; k < 30; k++) m.entry(k, leaf);
        long[] there = {0, 29, 1L << 32, (1L << 32) + 29};
        for (long index : there) {
            checks.due("steps", Programs.finish(m, caller, index), 2);
            checks.due("index " + index, m.state(0), 2);
        }
        long[] beyond = {30, 31, -1, 0x80000000L, LOW, (1L << 32) + 30};
        for (long index : beyond) {
            checks.due("the trap is a step", Programs.finish(m, caller, index), 2);
            checks.due("index " + index, m.state(0), 3);
            checks.due("trap by " + index, m.state(1), 6);
        }
    }

    private static void noneThere() {
        checks.sentence("7 if there is none");
        StackMachine m = new StackMachine();
        int leaf = Programs.write(m, 0, 0, 0);
        int caller = Programs.write(m, 1, 0, 0, op(32, 0), op(17, 0, 0));
        m.entry(14, leaf);
        for (int k = 13; k <= 15; k++) {
            checks.due("steps", Programs.finish(m, caller, k), 2);
            checks.due("state by " + k, m.state(0), k == 14 ? 2 : 3);
            if (k != 14) checks.due("trap by " + k, m.state(1), 7);
        }
        m.entry(14, -1);
        Programs.finish(m, caller, 14);
        checks.due("none any more", m.state(0), 3);
    }

    private static void justSoMany() {
        checks.sentence("8 if it has not just so many parameters and results");
        for (int parameters = 3; parameters <= 5; parameters++) {
            for (int results = 3; results <= 5; results++) {
                StackMachine m = new StackMachine();
                m.entry(0, Programs.write(m, parameters, results, 0, repeated(op(65), results)));
                m.function(0, 0, 0);
                push(m, 4);
                Programs.add(m, op(65, 0), op(17, 4, 4), op(15), op(11));
                Programs.finish(m, 1);
                boolean alike = parameters == 4 && results == 4;
                checks.due("state", m.state(0), alike ? 2 : 3);
                checks.due("trap", m.state(1), alike ? 0 : 8);
                checks.due("steps", m.state(4), alike ? 4 + 2 + 4 + 1 : 6);
            }
        }
    }
}
