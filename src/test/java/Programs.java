/** Short ways to write and run functions in tests. */
final class Programs {
    static final long LOW_32 = 0xFFFFFFFFL;

    private Programs() {
    }

    static int[] op(int operation) {
        return new int[] {operation, 0, 0};
    }

    static int[] op(int operation, int a) {
        return new int[] {operation, a, 0};
    }

    static int[] op(int operation, int a, int b) {
        return new int[] {operation, a, b};
    }

    /** A constant of 64 bits. */
    static int[] put(long v) {
        return new int[] {66, (int) v, (int) (v >>> 32)};
    }

    /** Writes instructions that all have to be accepted. */
    static void add(StackMachine m, int[]... code) {
        for (int i = 0; i < code.length; i++) {
            if (m.code(code[i][0], code[i][1], code[i][2]) < 0) {
                throw new AssertionError("instruction " + i + " was refused: " + code[i][0]);
            }
        }
    }

    /** Writes a whole function; its last END is added here. */
    static int write(StackMachine m, int parameters, int results, int locals, int[]... code) {
        int number = m.function(parameters, results, locals);
        if (number < 0) throw new AssertionError("the function was refused");
        add(m, code);
        add(m, op(11));
        return number;
    }

    static boolean call(StackMachine m, int function, long... arguments) {
        for (long v : arguments) m.argument(v);
        return m.call(function);
    }

    static int finish(StackMachine m, int function, long... arguments) {
        if (!call(m, function, arguments)) throw new AssertionError("the call was refused");
        return m.run(2000);
    }

    /** The one result of a function of this code alone. */
    static long valueOf(int[]... code) {
        StackMachine m = new StackMachine();
        finish(m, write(m, 0, 1, 0, code));
        if (m.state(0) != 2) throw new AssertionError("it did not end, but is in state " + m.state(0));
        return m.result(0);
    }

    /** The trap in which code without results ends; 0 when it does not trap. */
    static int trapOf(int[]... code) {
        StackMachine m = new StackMachine();
        finish(m, write(m, 0, 0, 0, code));
        return m.state(0) == 3 ? m.state(1) : 0;
    }
}
