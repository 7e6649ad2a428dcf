/** Promises 29 and 30: undo and the digest. */
public final class StateTest {
    private static final Check check = new Check();

    public static void main(String[] args) {
        Watch.begin("StateTest");
        undoOfEach();
        logIsUndone();
        fourStates();
        digest();
        textIsNotUndone();
        check.end();
    }

    /** Every undoable call can be taken back, and no other one saves a state. */
    private static void undoOfEach() {
        int[][] calls = {{0, 0, 0, 0}, {1, 9, 4, 0}, {2, 9, 4, 0}, {3, 0, 9, 8}, {4, 0, 9, 0}, {5, 0, 0, 0},
            {6, 11, 5, 0}, {12, 1, 0, 0}, {26, 0, 0, 0}};
        for (int[] call : calls) {
            NumberPlace x = Check.desk("12....", ";k8:20:21:22;t:30:31");
            String name = Script.NAMES[call[0]];
            x.deduce(2);
            long before = x.digest();
            Script.program(x, name, call[1], call[2], call[3]);
            check.due("29: " + name + " changes", x.digest() != before, true);
            check.due("29: undo of " + name, x.undo(), 2);
            check.due("29: back from " + name, x.digest(), before);
            Script.program(x, name, call[1], call[2], call[3]);
            check.due("29: log behind " + name, x.logged(), name.equals("deduce") ? 3 : 0);
        }
        NumberPlace x = Check.desk("12....", ";k8:20:21:22;t:30:31");
        x.deduce(2);
        String[] queries = {"constraint", "cellOf", "count", "candidates", "cell", "hint", "hintPlace", "logged",
            "step", "needs", "solutions", "guesses", "solved", "superfluous", "possible", "needed", "digest"};
        long before = x.digest();
        for (String name : queries) {
            Script.program(x, name, 1, 1, 0);
            check.due("30: " + name + " changes nothing", x.digest(), before);
        }
        check.due("29: states", x.undo(), 1);
    }

    private static void logIsUndone() {
        NumberPlace x = Check.desk("12....", ";k8:20:21:22;t:30:31");
        x.deduce(1);
        x.deduce(1);
        long before = x.digest();
        x.begin();
        x.give(35, 4);
        x.deduce(2);
        check.due("29: another log", x.step(0, 1), 35);
        x.undo();
        x.undo();
        check.due("29: undo of begin", x.undo(), 1);
        check.due("29: the first deduction of before", x.step(0, 1), 0);
        check.due("29: the second deduction of before", x.step(1, 1), 1);
        x.deduce(0);
        x.deduce(0);
        check.due("29: the log of before", x.digest(), before);
    }

    private static void fourStates() {
        NumberPlace x = new NumberPlace();
        long[] digests = new long[8];
        for (int k = 0; k < 7; k++) {
            x.strike(k, 1);
            digests[k] = x.count(3) * 1000L + x.candidates(k);
        }
        for (int k = 5; k >= 2; k--) {
            check.due("29: remain", x.undo(), k - 2);
            check.due("29: state " + k, x.count(3) * 1000L + x.candidates(k), digests[k]);
        }
        check.state(x, "29: a fifth", () -> x.undo());
        check.due("29: three strikes are left", x.count(3), 213);
        x.strike(0, 2);
        check.due("29: one is saved", x.undo(), 0);
        check.due("29: as before", x.count(3), 213);
    }

    /** The digest, put together here once more from the answers of the desk. */
    private static long expected(NumberPlace x, int length, int saved) {
        long h = 3041;
        h = 31 * h + length;
        for (int k = 0; k <= 5; k++) {
            h = 31 * h + x.count(k);
        }
        for (int c = 0; c < 36; c++) {
            h = 31 * (31 * (31 * h + x.candidates(c)) + x.cell(c, 0)) + x.cell(c, 1);
        }
        for (int i = 0; i < x.count(0); i++) {
            h = 31 * (31 * (31 * h + x.constraint(i, 0)) + x.constraint(i, 1)) + x.constraint(i, 2);
            for (int k = 0; k < x.constraint(i, 2); k++) {
                h = 31 * h + x.cellOf(i, k);
            }
        }
        h = 31 * h + x.logged();
        for (int k = 0; k < x.logged(); k++) {
            h = 31 * (31 * (31 * h + x.step(k, 0)) + x.step(k, 1)) + x.step(k, 2);
        }
        h = 31 * h + x.hint();
        return 31 * h + saved;
    }

    /** A desk behind the first calls of a run; made anew for every look at it. */
    private static NumberPlace behind(int calls) {
        NumberPlace x = Check.desk("12....3", ";k8:20:21:22;t:30:31;a:2:14");
        String[] names = {"deduce", "deduce", "addConstraint", "give", "strike", "clearText", "undo"};
        int[][] arguments = {{2, 0, 0}, {500, 0, 0}, {0, 9, 9}, {9, 6, 0}, {35, 1, 0}, {0, 0, 0}, {0, 0, 0}};
        for (int k = 0; k < calls && k < names.length; k++) {
            Script.program(x, names[k], arguments[k][0], arguments[k][1], arguments[k][2]);
        }
        if (calls > names.length) {
            Check.strikeAll(x, 35, 1, 2, 3, 4, 5, 6);
        }
        return x;
    }

    private static void digest() {
        int[] saved = {1, 2, 3, 4, 4, 4, 4, 3, 4};
        for (int calls = 0; calls <= 8; calls++) {
            int length = calls < 6 ? 63 : 0;
            check.due("30: behind " + calls, behind(calls).digest(), expected(behind(calls), length, saved[calls]));
        }
    }

    private static void textIsNotUndone() {
        NumberPlace x = new NumberPlace();
        x.strike(0, 1);
        x.append('1');
        x.append('2');
        check.due("29: undo", x.undo(), 0);
        check.due("29: the text stays", x.clearText(), 2);
    }
}
