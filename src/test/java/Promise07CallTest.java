public final class Promise07CallTest {
    private static final Checks checks = new Checks("promise 7");

    public static void main(String[] args) {
        refusals();
        noStepYet();
        whateverWasRun();
        exhaustedFromOutside();
        whileOneIsWritten();
        checks.end();
    }

    private static void refusals() {
        StackMachine m = new StackMachine();
        int f = Programs.write(m, 1, 1, 0, Programs.op(32, 0));
        int[] none = {-1, 1, 39, 40, Integer.MIN_VALUE, Integer.MAX_VALUE};
        m.argument(6);
        for (int k : none) checks.due("call(" + k + ")", m.call(k), false);
        m.function(1, 1, 0);
        checks.due("not whole", m.call(1), false);
        m.drop();
        checks.due("nothing was called", m.state(0), 0);
        m.argument(7);
        checks.due("too many arguments", m.call(f), false);
        StackMachine other = new StackMachine();
        Programs.write(other, 1, 1, 0, Programs.op(32, 0));
        checks.due("too few arguments", other.call(0), false);
        other.argument(12);
        checks.due("just so many", other.call(0), true);
        other.run(1);
        checks.due("ended", other.state(0), 2);
        checks.due("refused", other.call(0), false);
        checks.due("the state is as it was", other.state(0), 2);
        checks.due("the result is as it was", other.result(0), 12);
        checks.due("the steps are as they were", other.state(4), 1);
    }

    private static void noStepYet() {
        StackMachine m = new StackMachine();
        int f = Programs.write(m, 2, 0, 3, Programs.op(2), Programs.op(3), Programs.op(1), Programs.op(11), Programs.op(11));
        checks.due("called", Programs.call(m, f, 1, 2), true);
        checks.due("it goes on", m.state(0), 1);
        checks.due("one frame", m.state(2), 1);
        checks.due("its locals", m.state(3), 5);
        checks.due("no step", m.state(4), 0);
        checks.due("one step in all", m.run(10), 1);
        int empty = Programs.write(m, 1, 0, 0, Programs.op(2), Programs.op(3), Programs.op(11), Programs.op(11));
        checks.due("called", Programs.call(m, empty, 1), true);
        checks.due("it has ended without a step", m.state(0), 2);
        checks.due("steps", m.state(4), 0);
        checks.due("frames", m.state(2), 0);
        checks.due("values", m.state(3), 0);
    }

    private static void whateverWasRun() {
        StackMachine m = new StackMachine();
        int traps = Programs.write(m, 0, 1, 0, Programs.op(65, 9), Programs.op(36, 0), Programs.op(0));
        int deep = Programs.write(m, 0, 0, 0, Programs.op(16, 1));
        int fine = Programs.write(m, 0, 1, 1, Programs.op(32, 0), Programs.op(65, 7), Programs.op(34, 0), Programs.op(106));
        Programs.finish(m, traps);
        checks.due("trapped", m.state(0), 3);
        Programs.call(m, deep);
        m.run(7);
        checks.due("frames", m.state(2), 8);
        checks.due("called in the midst", Programs.call(m, fine), true);
        checks.due("frames anew", m.state(2), 1);
        checks.due("values anew", m.state(3), 1);
        checks.due("steps anew", m.state(4), 0);
        checks.due("steps", m.run(100), 4);
        checks.due("result", m.result(0), 7);
        Programs.finish(m, deep);
        checks.due("exhausted", m.state(0), 4);
        checks.due("no result", m.result(0), 0);
        Programs.finish(m, fine);
        checks.due("the local is 0 again", m.result(0), 7);
        checks.due("globals stay", m.global(0), 9);
    }

    private static void exhaustedFromOutside() {
        StackMachine m = new StackMachine();
        int most = wide(m, 204);
        checks.due("most operands", m.look(most, 3), 204);
        checks.due("called", Programs.call(m, most, 1, 2, 3, 4, 5, 6, 7, 8), true);
        checks.due("just 220 values are fine", m.state(0), 1);
        m = new StackMachine();
        int beyond = wide(m, 205);
        checks.due("called", Programs.call(m, beyond, 1, 2, 3, 4, 5, 6, 7, 8), true);
        checks.due("exhausted", m.state(0), 4);
        checks.due("it is no step", m.state(4), 0);
        checks.due("nothing to run", m.run(5), 0);
        checks.due("frames", m.state(2), 0);
        checks.due("values", m.state(3), 0);
        checks.due("the arguments are gone", m.argument(1), 1);
    }

    /** A function of 16 locals that has so many operands at most. */
    private static int wide(StackMachine m, int operands) {
        m.function(8, 0, 8);
        for (int i = 0; i < operands; i++) m.code(65, 1, 0);
        m.code(15, 0, 0);
        m.code(11, 0, 0);
        return 0;
    }

    private static void whileOneIsWritten() {
        StackMachine m = new StackMachine();
        int f = Programs.write(m, 0, 1, 0, Programs.op(65, 1), Programs.op(65, 2), Programs.op(106));
        m.function(0, 0, 0);
        m.code(65, 4, 0);
        checks.due("called", m.call(f), true);
        m.run(1);
        m.code(26, 0, 0);
        m.run(1);
        m.drop();
        m.run(1);
        checks.due("result", m.result(0), 3);
    }
}
