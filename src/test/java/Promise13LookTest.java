public final class Promise13LookTest {
    private static final Checks checks = new Checks("promise 13");

    public static void main(String[] args) {
        answers();
        mostOperands();
        checks.end();
    }

    private static void answers() {
        StackMachine m = new StackMachine();
        Programs.write(m, 1, 2, 3, Programs.op(65), Programs.op(65), Programs.op(65), Programs.op(26));
        int[] want = {1, 2, 3, 3};
        for (int what = 0; what < 4; what++) checks.due("look(0, " + what + ")", m.look(0, what), want[what]);
        int[] others = {-1, 4, Integer.MIN_VALUE, Integer.MAX_VALUE};
        for (int what : others) checks.due("look(0, " + what + ")", m.look(0, what), -1);
        int[] none = {-1, 1, 39, 40, Integer.MIN_VALUE, Integer.MAX_VALUE};
        for (int f : none) for (int what = 0; what < 4; what++) checks.due("look(" + f + ")", m.look(f, what), -1);
        m.function(0, 0, 0);
        checks.due("not whole yet", m.look(1, 0), -1);
        m.code(11, 0, 0);
        for (int what = 0; what < 4; what++) checks.due("whole", m.look(1, what), 0);
    }

    private static void most(String what, int results, int want, int[]... code) {
        StackMachine m = new StackMachine();
        Programs.write(m, 2, results, 0, code);
        checks.due("most operands: " + what, m.look(0, 3), want);
    }

    private static int[] op(int operation) {
        return Programs.op(operation);
    }

    private static int[] op(int operation, int a) {
        return Programs.op(operation, a);
    }

    private static int[] op(int operation, int a, int b) {
        return Programs.op(operation, a, b);
    }

    private static void mostOperands() {
        most("nothing", 0, 0, op(1));
        most("of all labels together", 0, 3, op(65), op(65), op(2, 1, 0), op(65), op(26), op(26), op(11), op(26));
        most("not at the end", 1, 4, op(65), op(65), op(65), op(65), op(26), op(27));
        most("by a call's results", 3, 6, op(65), op(65), op(16, 0), op(65), op(65), op(16, 0), op(26), op(26), op(26));
        most("by a call through the table", 0, 8, op(65), op(17, 0, 8), op(15));
        most("by the end of a dead label", 0, 5, op(65), op(2, 0, 4), op(0), op(11), op(15));
        most("in a dead label, what it has", 0, 2, op(0), op(65), op(65), op(106), op(26));
        most("in a dead label, what it asks for", 0, 1, op(0), op(27), op(26));
        most("not the results that a dead function's end asks for", 1, 0, op(0));
        most("nor so many as there can be", 8, 0, op(0));
        most("but what it has there", 8, 2, op(0), op(65), op(65));
        most("or had before", 1, 3, op(65), op(65), op(65), op(0));
        most("nor those of a branch in dead code", 8, 0, op(0), op(12, 0));
        most("nor those that the entries of a dead table want", 8, 0, op(0), op(14, 0), op(6, 0));
        most("a dead label's results in a label round it, dead too", 8, 4, op(0), op(2, 0, 4), op(0), op(11));
        most("the results of a function that is not dead at its end", 2, 2, op(65), op(65));
        most("in one arm", 0, 3, op(65), op(4, 0, 0), op(1), op(5), op(65), op(65), op(65), op(15), op(11));
    }
}
