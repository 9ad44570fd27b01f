public final class Promise04DropTest {
    public static void main(String[] args) {
        Checks checks = new Checks("promise 4");
        StackMachine m = new StackMachine();
        checks.due("none is written", m.drop(), false);
        m.function(0, 1, 0);
        checks.due("an empty one", m.drop(), true);
        checks.due("none is left", m.drop(), false);
        Programs.write(m, 0, 1, 0, Programs.op(65, 3));
        checks.due("a whole one is not written", m.drop(), false);
        checks.due("instructions of the whole one", m.state(6), 2);
        m.function(0, 0, 0);
        Programs.add(m, Programs.op(2), Programs.op(65, 1), Programs.op(65, 2), Programs.op(14, 3), Programs.op(6, 0));
        checks.due("instructions with those of the draft", m.state(6), 7);
        checks.due("functions with the draft", m.state(5), 2);
        checks.due("in the midst of a table", m.drop(), true);
        checks.due("instructions are gone", m.state(6), 2);
        checks.due("the function is gone", m.state(5), 1);
        for (int what = 7; what <= 9; what++) checks.due("state " + what, m.state(what), 0);
        checks.due("it can't be called", m.call(1), false);
        checks.due("it can't be looked at", m.look(1, 0), -1);
        checks.due("it can't be entered", m.entry(0, 1), false);
        checks.due("nothing is written on", m.code(1, 0, 0), -1);
        m.function(0, 0, 0);
        checks.due("no entry is due any more", m.code(1, 0, 0), 3);
        checks.due("label of the new one", m.state(7), 1);
        checks.due("the first is as it was", Programs.finish(m, 0), 1);
        checks.due("and its result too", m.result(0), 3);
        theLastOne(checks);
        checks.end();
    }

    private static void theLastOne(Checks checks) {
        StackMachine m = new StackMachine();
        for (int i = 0; i < 39; i++) Programs.write(m, 0, 0, 0);
        m.function(0, 0, 0);
        checks.due("function 39 is given up", m.drop(), true);
        checks.due("39 are left", m.state(5), 39);
        checks.due("it can be begun again", m.function(0, 0, 0), 39);
        checks.due("just so many instructions", m.state(6), 39);
    }
}
