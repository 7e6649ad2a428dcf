import java.util.function.Supplier;

/** What the calls that read answer on a desk, and what the text holds. */
final class Readings {
    /** So many deductions of the log are read one by one; the digest reads all of them. */
    private static final int STEPS = 12;
    private final long[] values = new long[512];
    private int size;

    /** Reads all there is; at the end the desk has parsed and emptied its text. */
    Readings(NumberPlace x) {
        add(x.digest());
        for (int what = 0; what <= 5; what++) {
            add(x.count(what));
        }
        for (int cell = 0; cell < 36; cell++) {
            add(x.candidates(cell));
            add(x.cell(cell, 0));
            add(x.cell(cell, 1));
            add(x.cell(cell, 2));
        }
        for (int i = 0; i < x.count(0); i++) {
            add(x.constraint(i, 0));
            add(x.constraint(i, 1));
            for (int place = 0; place < x.constraint(i, 2); place++) {
                add(x.cellOf(i, place));
            }
        }
        add(x.hint());
        add(x.hintPlace());
        for (int k = 0; k < Math.min(x.logged(), STEPS); k++) {
            add(x.step(k, 0) * 10000 + x.step(k, 1) * 100 + x.step(k, 2));
        }
        solve(x);
        add(x.parse());
        add(x.digest());
        add(x.clearText());
    }

    private void solve(NumberPlace x) {
        for (int kind = 1; kind <= 7; kind++) {
            add(x.needs(kind));
        }
        add(x.solutions(20));
        add(x.guesses());
        for (int cell = 0; cell < 36; cell += 5) {
            add(x.solved(cell));
            add(x.possible(cell, 1 + cell % 6) ? 1 : 0);
        }
        add(x.superfluous());
        add(x.needed());
    }

    private void add(long value) {
        values[size++] = value;
    }

    /** Two desks must read alike, now and behind every undo; each is made anew for every look. */
    static void alike(Check check, String what, Supplier<NumberPlace> one, Supplier<NumberPlace> other) {
        int states = 0;
        NumberPlace z = other.get();
        while (undone(z) >= 0) {
            states++;
        }
        for (int undos = 0; undos <= states; undos++) {
            NumberPlace x = one.get();
            NumberPlace y = other.get();
            for (int left = states - 1; left >= states - undos; left--) {
                check.due(what + ": states left", undone(x), left);
                undone(y);
            }
            if (undos == states) {
                check.due(what + ": no more states", undone(x), -1);
            }
            compare(check, what + ", " + undos + " undone", new Readings(x), new Readings(y));
        }
    }

    private static void compare(Check check, String what, Readings got, Readings want) {
        check.due(what + ": how many readings", got.size, want.size);
        for (int k = 0; k < got.size; k++) {
            check.due(what + ": reading " + k, got.values[k], want.values[k]);
        }
    }

    /** The states that are left behind an undo; -1 if there was none to undo. */
    private static int undone(NumberPlace x) {
        try {
            return x.undo();
        } catch (IllegalStateException e) {
            return -1;
        }
    }
}
