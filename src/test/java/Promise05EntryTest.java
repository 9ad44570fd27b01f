public final class Promise05EntryTest {
    public static void main(String[] args) {
        Checks checks = new Checks("promise 5");
        StackMachine m = new StackMachine();
        int three = Programs.write(m, 0, 1, 0, Programs.op(65, 3));
        int four = Programs.write(m, 0, 1, 0, Programs.op(65, 4));
        int chosen = Programs.write(m, 1, 1, 0, Programs.op(32, 0), Programs.op(17, 0, 1));
        int[] noEntries = {-1, 30, 31, Integer.MIN_VALUE, Integer.MAX_VALUE};
        for (int k : noEntries) {
            checks.due("entry " + k, m.entry(k, three), false);
            checks.due("no entry " + k + " to empty", m.entry(k, -1), false);
        }
        int[] noFunctions = {-2, 3, 39, 40, Integer.MIN_VALUE, Integer.MAX_VALUE};
        for (int f : noFunctions) checks.due("function " + f, m.entry(0, f), false);
        m.function(0, 1, 0);
        checks.due("not whole yet", m.entry(0, 3), false);
        m.code(0, 0, 0);
        m.code(11, 0, 0);
        checks.due("whole now", m.entry(0, 3), true);

        checks.due("set", m.entry(0, three), true);
        checks.due("set the last", m.entry(29, four), true);
        checks.due("steps", Programs.finish(m, chosen, 0), 3);
        checks.due("entry 0 is called", m.result(0), 3);
        Programs.finish(m, chosen, 29);
        checks.due("entry 29 is called", m.result(0), 4);
        checks.due("set anew", m.entry(0, four), true);
        Programs.finish(m, chosen, 0);
        checks.due("the new one is called", m.result(0), 4);
        checks.due("a refused one", m.entry(0, 77), false);
        Programs.finish(m, chosen, 0);
        checks.due("changes nothing", m.result(0), 4);
        checks.due("emptied", m.entry(0, -1), true);
        checks.due("emptied again", m.entry(0, -1), true);
        Programs.finish(m, chosen, 0);
        checks.due("none there", m.state(1), 7);
        fromNowOn(checks, m, chosen, three);
        checks.end();
    }

    private static void fromNowOn(Checks checks, StackMachine m, int chosen, int three) {
        Programs.call(m, chosen, 5);
        m.run(1);
        m.entry(5, three);
        m.run(9);
        checks.due("an entry set while it runs", m.result(0), 3);
    }
}
