/** Counts the answers of one test that are not as due, and ends the program by them. */
final class Checks {
    private final String name;
    private String sentence = "";
    private int made;
    private int madeAhead;
    private int wrong;

    Checks(String name) {
        this.name = name;
    }

    /** The document's words by which the answers that follow are due. */
    void sentence(String words) {
        wantAnswers();
        sentence = " [" + words + "]";
    }

    void due(String what, long got, long want) {
        made++;
        if (got == want) return;
        wrong++;
        System.out.println(name + ": " + what + " answered " + got + ", due is " + want + sentence);
    }

    /** A sentence that no answer was asked for is not tested. */
    private void wantAnswers() {
        if (!sentence.isEmpty() && made == madeAhead) {
            wrong++;
            System.out.println(name + ": no answer was asked for" + sentence);
        }
        madeAhead = made;
    }

    void due(String what, boolean got, boolean want) {
        due(what, got ? 1 : 0, want ? 1 : 0);
    }

    /** That nothing which the face shows of writing has changed by a refused call. */
    void sameWriting(String what, StackMachine m, long[] before) {
        long[] after = writing(m);
        for (int i = 0; i < before.length; i++) due(what + ", state " + (5 + i), after[i], before[i]);
    }

    static long[] writing(StackMachine m) {
        long[] seen = new long[5];
        for (int i = 0; i < seen.length; i++) seen[i] = m.state(5 + i);
        return seen;
    }

    void end() {
        wantAnswers();
        System.out.println(name + ": " + made + " answers, " + wrong + " not as due");
        if (wrong != 0 || made == 0) System.exit(1);
    }
}
