import java.math.BigInteger;
import java.util.ArrayList;
import java.util.List;
import java.util.function.Supplier;

/** Promises 29 and 30: undo and the digest. */
final class StatePromises {
    @Sentence({"Restores the most recently saved state and removes it from the saved states.",
        "Returns the number of saved states that remain."})
    static void promise29_undo(Check check) {
        NumberPlace x = new NumberPlace();
        x.give(0, 1);
        x.deduce(1);
        x.strike(20, 6);
        check.due("the strike is undone", x.undo(), 2);
        check.due("its candidate is back", x.candidates(20), 126);
        check.due("the log is back", x.logged(), 1);
        check.due("the deduction is undone", x.undo(), 1);
        check.due("none is placed", x.count(2), 0);
        check.due("not the given", x.cell(0, 1), 1);
        check.due("the given is undone", x.undo(), 0);
        check.due("nothing is given", x.cell(0, 1), 0);
        x.strike(3, 3);
        check.due("a new one", x.undo(), 0);
        check.due("back", x.candidates(3), 126);
    }

    @Sentence("Restores the most recently saved state")
    static void promise29_restoresAll(Check check) {
        Readings.alike(check, "begin undone", () -> {
            NumberPlace x = Desks.busy();
            x.undo();
            x.begin();
            x.undo();
            return x;
        }, () -> {
            NumberPlace x = Desks.busy();
            x.undo();
            return x;
        });
        Readings.alike(check, "many calls undone", () -> {
            NumberPlace x = Desks.full();
            x.undo();
            x.undo();
            x.undo();
            x.make(7, 30);
            x.deduce(20);
            x.begin();
            x.undo();
            x.undo();
            x.undo();
            return x;
        }, () -> {
            NumberPlace x = Desks.full();
            x.undo();
            x.undo();
            x.undo();
            return x;
        });
    }

    @Sentence("Throws `IllegalStateException` if there is no saved state")
    static void promise29_noState(Check check) {
        Refused.state(check, "new", x -> x.undo(), NumberPlace::new);
        Refused.state(check, "one undone", x -> x.undo(), () -> {
            NumberPlace x = Check.desk("12", "");
            x.undo();
            return x;
        });
        Refused.state(check, "four undone", x -> x.undo(), () -> {
            NumberPlace x = Desks.busy();
            for (int k = 3; k >= 0; k--) {
                check.due("left", x.undo(), k);
            }
            return x;
        });
        NumberPlace x = new NumberPlace();
        x.append('1');
        x.hint();
        check.due("nothing undoable was called", Script.program(x, "undo", 0, 0, 0), Script.STATE);
    }

    /** The values that the document lists, in its order; a desk is made anew for a part of them. */
    private static List<Long> values(Supplier<NumberPlace> desk, int length, int saved) {
        List<Long> v = new ArrayList<>();
        v.add((long) length);
        NumberPlace x = desk.get();
        for (int what = 0; what <= 5; what++) {
            v.add((long) x.count(what));
        }
        for (int cell = 0; cell < 36; cell++) {
            v.add((long) x.candidates(cell));
            v.add((long) x.cell(cell, 0));
            v.add((long) x.cell(cell, 1));
        }
        x = desk.get();
        int constraints = x.count(0);
        for (int i = 0; i < constraints; i++) {
            for (int what = 0; what <= 2; what++) {
                v.add((long) x.constraint(i, what));
            }
            int cells = x.constraint(i, 2);
            for (int place = 0; place < cells; place++) {
                v.add((long) x.cellOf(i, place));
            }
        }
        int hint = x.hint();
        x = desk.get();
        int logged = x.logged();
        v.add((long) logged);
        for (int k = 0; k < logged; k++) {
            for (int what = 0; what <= 2; what++) {
                v.add((long) x.step(k, what));
            }
        }
        v.add((long) hint);
        v.add((long) saved);
        return v;
    }

    private static long hash(List<Long> values) {
        BigInteger h = BigInteger.valueOf(3041);
        for (long v : values) {
            h = h.multiply(BigInteger.valueOf(31)).add(BigInteger.valueOf(v));
        }
        // The low 64 bits are what the overflow of long arithmetic leaves.
        return h.longValue();
    }

    @Sentence({"Returns a hash of the state. Start with h = 3041 and, for each of the following values v, set h = 31 * h"
        + " + v: the length of the text; count() for 0 to 5; for each cell its candidates and the values of cell() for"
        + " what = 0 to 1; for each constraint the values of constraint() for what = 0 to 2 and its cells; logged()"
        + " and, for each deduction in the log, the values of step() for what = 0 to 2; hint(); the number of saved"
        + " states.", "Returns the hash, with the overflow of long arithmetic ignored."})
    static void promise30_digest(Check check) {
        digest(check, "new", NumberPlace::new, 0, 0);
        digest(check, "busy", Desks::busy, 36 + 27, 4);
        digest(check, "full", Desks::full, 150, 4);
        digest(check, "dead", Desks::dead, 36 + 8, 4);
        digest(check, "solved", Desks::solved, 0, 2);
        int length = 36 + SolvingSentences.LONG_WAY.length();
        for (int steps : new int[] {0, 1, 99, 100, 101, 500}) {
            digest(check, "a log of " + steps, () -> {
                NumberPlace x = SolvingSentences.longWay();
                x.deduce(steps);
                return x;
            }, length, 4);
        }
    }

    private static void digest(Check check, String what, Supplier<NumberPlace> desk, int length, int saved) {
        check.due(what, desk.get().digest(), hash(values(desk, length, saved)));
    }

    @Sentence("the length of the text; count() for 0 to 5;")
    static void promise30_eachValueCounts(Check check) {
        NumberPlace x = new NumberPlace();
        long last = x.digest();
        for (int length = 1; length <= 150; length++) {
            x.append(0);
            check.due("length " + length, x.digest() != last, true);
            last = x.digest();
        }
        check.due("the bytes do not count", x.digest(), hash(values(NumberPlace::new, 150, 0)));
        x.clearText();
        check.due("no text", x.digest(), new NumberPlace().digest());
    }

    @Sentence("the number of saved states.")
    static void promise30_savedStates(Check check) {
        NumberPlace x = new NumberPlace();
        long empty = x.digest();
        for (int saved = 1; saved <= 6; saved++) {
            x.begin();
            check.due("states " + saved, x.digest(), empty + Math.min(4, saved));
        }
        for (int saved = 3; saved >= 0; saved--) {
            x.undo();
            check.due("states " + saved, x.digest(), empty + saved);
        }
    }

    @Sentence("hint();")
    static void promise30_changesNothing(Check check) {
        NumberPlace x = Check.desk("12", ";t:30:31");
        long before = x.digest();
        check.due("again", x.digest(), before);
        check.due("none is placed by it", x.count(2), 0);
        x.deduce(1);
        x.undo();
        check.due("one state more was saved and undone", x.digest(), before);
    }
}
