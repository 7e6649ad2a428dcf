/** The heads "Undo", "Exceptions" and the constants of the description. */
final class UndoSentences {
    /** Every undoable method with arguments that change the busy desk. */
    private static final Object[][] CHANGES = {{"begin", 0, 0, 0}, {"give", 8, 5, 0}, {"strike", 8, 5, 0},
        {"addConstraint", 2, 8, 0}, {"extend", 3, 29, 0}, {"restart", 0, 0, 0}, {"make", 1, 20, 0},
        {"deduce", 2, 0, 0}, {"parse", 0, 0, 0}};

    /** The same with arguments that change nothing on a new desk that has a text of dots. */
    private static final Object[][] NO_CHANGES = {{"begin", 0, 0, 0}, {"restart", 0, 0, 0}, {"deduce", 0, 0, 0},
        {"deduce", 500, 0, 0}, {"parse", 0, 0, 0}};

    private static long call(NumberPlace x, Object[] call) {
        return Script.program(x, (String) call[0], (int) call[1], (int) call[2], (int) call[3]);
    }

    private static int states(NumberPlace x) {
        int n = 0;
        while (Script.program(x, "undo", 0, 0, 0) != Script.STATE) {
            n++;
        }
        return n;
    }

    @Sentence("Each successful call of a method whose description says \"undoable\" saves the state from before the"
            + " call,")
    static void undo_everyUndoableMethod(Check check) {
        for (Object[] call : CHANGES) {
            NumberPlace x = Desks.busy();
            x.undo();
            long before = x.digest();
            check.due(call[0] + " is done", call(x, call) > -1, true);
            check.due(call[0] + " changes", x.digest() != before, true);
            check.due("undo of " + call[0], x.undo(), 3);
            check.due("back from " + call[0], x.digest(), before);
        }
    }

    @Sentence("saves the state from before the call")
    static void undo_readsTheSame(Check check) {
        for (Object[] call : CHANGES) {
            Readings.alike(check, call[0] + " and undo", () -> {
                NumberPlace x = Desks.busy();
                x.undo();
                call(x, call);
                x.undo();
                return x;
            }, () -> {
                NumberPlace x = Desks.busy();
                x.undo();
                return x;
            });
        }
    }

    @Sentence("even if the call changes nothing;")
    static void undo_savedThoughNothingChanges(Check check) {
        for (Object[] call : NO_CHANGES) {
            NumberPlace x = new NumberPlace();
            Check.write(x, Desks.DOTS);
            check.due(call[0] + " is done", call(x, call), 0);
            check.due("a state is saved by " + call[0], x.undo(), 0);
        }
        NumberPlace strike = new NumberPlace();
        strike.strike(0, 1);
        check.due("struck before", strike.strike(0, 1), false);
        check.due("two states", strike.undo(), 1);
        check.due("struck still", strike.candidates(0), 124);
        NumberPlace give = new NumberPlace();
        give.give(0, 1);
        give.give(0, 1);
        check.due("given twice", give.undo(), 1);
        check.due("given still", give.candidates(0), 2);
        NumberPlace make = new NumberPlace();
        make.make(1, 36);
        make.make(1, 36);
        check.due("made twice", make.undo(), 1);
        check.due("made still", make.count(1), 36);
        NumberPlace dead = Desks.dead();
        int states = states(Desks.dead());
        check.due("no deduction", dead.deduce(500), 0);
        check.due("saved all the same", states(dead), Math.min(4, states + 1));
    }

    @Sentence("Each successful call")
    static void undo_onlyUndoableMethods(Check check) {
        NumberPlace x = new NumberPlace();
        x.strike(0, 1);
        for (String name : Script.NAMES) {
            boolean undoable = "undo".equals(name);
            for (Object[] call : CHANGES) {
                undoable = undoable || call[0].equals(name) && !name.equals("parse");
            }
            if (!undoable) {
                Script.program(x, name, 1, 1, 1);
                Script.program(x, name, -1, -1, -1);
            }
        }
        for (String name : new String[] {"give", "strike", "addConstraint", "extend", "make", "deduce"}) {
            check.due(name + " is refused", Script.program(x, name, -1, -1, -1) < -900000, true);
        }
        check.due("no state but the strike's", x.undo(), 0);
        check.due("none behind an undo", states(x), 0);
    }

    @Sentence("at most 4 states are saved, and the oldest is dropped first.")
    static void undo_atMostFour(Check check) {
        for (int calls = 0; calls <= 10; calls++) {
            NumberPlace x = new NumberPlace();
            long[] states = new long[11];
            for (int k = 0; k < calls; k++) {
                states[k] = seen(x);
                x.strike(k, 1 + k % 6);
            }
            for (int k = calls - 1; k >= Math.max(0, calls - 4); k--) {
                check.due("left of " + calls, x.undo(), k - Math.max(0, calls - 4));
                check.due("state " + k + " of " + calls, seen(x), states[k]);
            }
            check.due("no more of " + calls, Script.program(x, "undo", 0, 0, 0), Script.STATE);
            check.due("the last one stays", calls == 0 || seen(x) == states[Math.max(0, calls - 4)], true);
        }
    }

    private static long seen(NumberPlace x) {
        long h = 0;
        for (int cell = 0; cell < 11; cell++) {
            h = 127 * h + x.candidates(cell);
        }
        return h;
    }

    @Sentence("at most 4 states are saved")
    static void undo_againBehindUndo(Check check) {
        NumberPlace x = new NumberPlace();
        for (int k = 0; k < 6; k++) {
            x.strike(k, 1);
        }
        check.due("one back", x.undo(), 3);
        check.due("two back", x.undo(), 2);
        x.give(20, 3);
        x.give(21, 3);
        x.give(22, 3);
        check.due("the givens go", x.undo(), 3);
        x.undo();
        x.undo();
        check.due("then the strikes", x.undo(), 0);
        check.due("three strikes are left", x.count(3), 213);
        check.due("no more", Script.program(x, "undo", 0, 0, 0), Script.STATE);
    }

    @Sentence("The saved state contains everything except the puzzle text.")
    static void undo_everythingButTheText(Check check) {
        NumberPlace x = new NumberPlace();
        Check.write(x, "12");
        x.strike(0, 1);
        Check.write(x, Desks.DOTS.substring(2));
        check.due("undo", x.undo(), 0);
        check.due("the text is as long as before", x.append('x'), 37);
        x.strike(0, 1);
        x.clearText();
        x.undo();
        check.due("no text comes back", x.clearText(), 0);
        Check.write(x, "6" + Desks.DOTS.substring(1));
        x.parse();
        x.undo();
        check.due("nor is one taken away", x.parse(), 1);
        check.due("and it is the same", x.cell(0, 1), 6);
        Readings.alike(check, "everything else", () -> {
            NumberPlace y = Desks.busy();
            y.begin();
            y.undo();
            y.deduce(0);
            return y;
        }, () -> {
            NumberPlace y = Desks.busy();
            y.deduce(0);
            y.undo();
            y.deduce(0);
            return y;
        });
        String[] changed = {"placed", "candidates", "givens", "constraints", "log"};
        int[] due = {2, 4, 1, 6, 2};
        NumberPlace z = Check.desk("12", ";t:30:31");
        z.deduce(2);
        z.strike(20, 1);
        z.undo();
        z.begin();
        z.undo();
        int[] got = {z.count(2), z.candidates(1), z.cell(0, 1), 5 + z.count(0), z.logged()};
        for (int k = 0; k < 5; k++) {
            check.due(changed[k] + " come back", got[k], due[k]);
        }
    }

    @Sentence("A call that throws an exception changes nothing.")
    static void exceptions_changeNothing(Check check) {
        Refused.index(check, "give", x -> x.give(36, 1));
        Refused.argument(check, "give", x -> x.give(9, 7));
        Refused.index(check, "strike", x -> x.strike(-1, 1) ? 1 : 0);
        Refused.argument(check, "strike", x -> x.strike(9, 0) ? 1 : 0);
        Refused.index(check, "addConstraint", x -> x.addConstraint(0, 36, 5));
        Refused.argument(check, "addConstraint", x -> x.addConstraint(0, 5, 25));
        Refused.index(check, "extend", x -> x.extend(8, 5));
        Refused.argument(check, "make", x -> x.make(1000000, 5));
        Refused.argument(check, "deduce", x -> x.deduce(501));
        Refused.argument(check, "append", x -> x.append(128));
        Refused.state(check, "undo", x -> x.undo(), NumberPlace::new);
        Refused.state(check, "undo", x -> x.undo(), () -> {
            NumberPlace x = Desks.busy();
            while (states(x) > 0) {
                continue;
            }
            return x;
        });
        Refused.state(check, "a ninth", x -> x.addConstraint(2, 5, 0), Desks::full);
        Refused.state(check, "a full one", x -> x.extend(2, 5), Desks::full);
        Refused.state(check, "a full text", x -> x.append('1'), Desks::full);
        Refused.argument(check, "dead", x -> x.deduce(-1), Desks::dead);
        Refused.index(check, "solved", x -> x.give(36, 1), Desks::solved);
    }

    @Sentence("If several exceptions apply, the one that is listed first is thrown.")
    static void exceptions_firstListed(Check check) {
        Refused.index(check, "give(36, 0)", x -> x.give(36, 0));
        Refused.index(check, "give(-1, 7)", x -> x.give(-1, 7));
        Refused.index(check, "strike(36, 7)", x -> x.strike(36, 7) ? 1 : 0);
        Refused.index(check, "strike(-1, 0)", x -> x.strike(-1, 0) ? 1 : 0);
        Refused.index(check, "no cell before no kind", x -> x.addConstraint(3, 36, 0));
        Refused.index(check, "no cell before no sum", x -> x.addConstraint(0, -1, 25));
        Refused.index(check, "no cell before a ninth", x -> x.addConstraint(2, 36, 0), Desks::full);
        Refused.index(check, "no cell before all", x -> x.addConstraint(-1, -1, 99), Desks::full);
        Refused.argument(check, "no kind before a ninth", x -> x.addConstraint(3, 0, 0), Desks::full);
        Refused.argument(check, "no sum before a ninth", x -> x.addConstraint(0, 0, 0), Desks::full);
        Refused.index(check, "no cell before a full one", x -> x.extend(0, 36), Desks::full);
        Refused.index(check, "no constraint, a cell of one", x -> x.extend(8, 0), Desks::full);
        Refused.index(check, "constraint(9, 9)", x -> x.constraint(9, 9));
        Refused.index(check, "constraint(-1, -1)", x -> x.constraint(-1, -1));
        Refused.index(check, "cell(36, 3)", x -> x.cell(36, 3));
        Refused.index(check, "cell(-1, -1)", x -> x.cell(-1, -1));
        Refused.index(check, "step(99, 3)", x -> x.step(99, 3));
        Refused.index(check, "step(-1, -1)", x -> x.step(-1, -1));
        Refused.index(check, "possible(36, 0)", x -> x.possible(36, 0) ? 1 : 0);
        Refused.index(check, "possible(-1, 7)", x -> x.possible(-1, 7) ? 1 : 0);
        Refused.argument(check, "no byte before a full text", x -> x.append(128), Desks::full);
        Refused.argument(check, "no byte before a full text", x -> x.append(-1), Desks::full);
    }

    @Sentence("- `NONE = -1`: There is no such thing.")
    static void constants_none(Check check) {
        check.due("NONE", NumberPlace.NONE, -1);
        check.due("no place", new NumberPlace().hintPlace(), NumberPlace.NONE);
        check.due("no guesses", Desks.dead().guesses(), NumberPlace.NONE);
        check.due("no number", new NumberPlace().superfluous(), NumberPlace.NONE);
    }
}
