/** Promises 14 to 19: deductions, hints, the log and needs. */
final class DeductionPromises {
    /** A puzzle with more than thirty deductions of several kinds. */
    private static NumberPlace puzzle() {
        return Check.desk("1..4....2..5...1...3....6....2..5..1", ";t:6:7;k3:12:20;a:33:34");
    }

    @Sentence({"Does deductions until none is possible, or a number of them has been done. Undoable.",
        "Returns the number of deductions done."})
    static void promise14_deduce(Check check) {
        int all = puzzle().deduce(500);
        check.due("some", all > 20, true);
        for (int steps = 0; steps <= all + 2; steps++) {
            NumberPlace x = puzzle();
            NumberPlace y = puzzle();
            int done = Math.min(steps, all);
            check.due("done of " + steps, x.deduce(steps), done);
            check.due("logged of " + steps, x.logged(), done);
            for (int k = 0; k < done; k++) {
                check.due("one by one", y.deduce(1), 1);
            }
            check.due("as many candidates", x.count(3), y.count(3));
            check.due("as many placed", x.count(2), y.count(2));
            check.due("the next one", x.hint() * 100 + x.hintPlace(), y.hint() * 100 + y.hintPlace());
            check.due("one state is saved", x.undo(), 1);
            check.due("as before", x.digest(), undone().digest());
        }
    }

    private static NumberPlace undone() {
        NumberPlace x = puzzle();
        x.deduce(500);
        x.undo();
        return x;
    }

    @Sentence({"- `steps`: 0 to 500", "Throws `IllegalArgumentException` if steps is out of range"})
    static void promise14_noSteps(Check check) {
        NumberPlace x = puzzle();
        check.due("no steps", x.deduce(0), 0);
        check.due("nothing is done", x.logged(), 0);
        check.due("saved all the same", x.undo(), 1);
        check.due("500 steps", x.deduce(500) > 20, true);
        check.due("499 steps", puzzle().deduce(499), puzzle().deduce(500));
        for (int steps : new int[] {-1, 501, -500, 502, Integer.MIN_VALUE, Integer.MAX_VALUE}) {
            Refused.argument(check, "steps " + steps, y -> y.deduce(steps));
        }
    }

    @Sentence("until none is possible")
    static void promise14_noneIsPossible(Check check) {
        check.due("empty", new NumberPlace().deduce(500), 0);
        check.due("dead", Desks.dead().deduce(500), 0);
        check.due("solved", Desks.solved().deduce(500), 0);
        NumberPlace x = SolvingSentences.longWay();
        int all = x.deduce(500);
        check.due("more than the log keeps", all > 100, true);
        check.due("none is left", x.deduce(500), 0);
        check.due("no hint", x.hint(), 0);
        NumberPlace dies = Check.desk("1....1", "");
        check.due("until it is dead", dies.deduce(500), 1);
    }

    @Sentence({"Returns the kind of the next deduction, without doing it.", "Returns 1 to 7;"})
    static void promise15_hint(Check check) {
        int seen = 0;
        for (int k = 0; k < 100; k++) {
            NumberPlace x = SolvingSentences.longWay();
            x.deduce(k);
            long before = x.digest();
            int kind = x.hint();
            check.due("without doing it", x.digest(), before);
            x.deduce(1);
            check.due("the kind that is done", x.step(k, 0), kind);
        }
        for (int kind = 1; kind <= 7; kind++) {
            NumberPlace x = ofKind(kind);
            check.due("kind " + kind, x.hint(), kind);
            check.due("again", x.hint(), kind);
            seen |= 1 << x.hint();
        }
        check.due("all kinds", seen, 254);
    }

    /** A desk whose next deduction is of a kind. */
    private static NumberPlace ofKind(int kind) {
        NumberPlace x = new NumberPlace();
        switch (kind) {
            case 1:
                x.give(21, 3);
                break;
            case 2:
                for (int cell = 0; cell < 5; cell++) {
                    x.strike(cell, 6);
                }
                break;
            case 3:
                return Check.desk("", ";t:0:9");
            case 4:
                return Check.desk("", ";k11:0:9");
            case 5:
                return Check.desk("", ";a:0:9:22");
            case 6:
                Check.strikeAll(x, 3, 1);
                Check.strikeAll(x, 4, 1);
                Check.strikeAll(x, 5, 1);
                break;
            default:
                Check.strikeAll(x, 2, 1, 2, 3, 4);
                Check.strikeAll(x, 26, 1, 2, 3, 4);
                break;
        }
        return x;
    }

    @Sentence("0 if none is possible.")
    static void promise15_none(Check check) {
        check.due("empty", new NumberPlace().hint(), 0);
        check.due("dead", Desks.dead().hint(), 0);
        check.due("solved", Desks.solved().hint(), 0);
        NumberPlace x = puzzle();
        x.deduce(500);
        check.due("behind all", x.hint(), 0);
        x.undo();
        check.due("undone", x.hint() != 0, true);
    }

    @Sentence({"Returns the place of the next deduction, as in the log.", "Returns the place;"})
    static void promise16_hintPlace(Check check) {
        for (int k = 0; k < 100; k++) {
            NumberPlace x = SolvingSentences.longWay();
            x.deduce(k);
            long before = x.digest();
            int place = x.hintPlace();
            check.due("without doing it", x.digest(), before);
            x.deduce(1);
            check.due("the place in the log", x.step(k, 1), place);
        }
        int[] places = {0, 21, 0, 0, 0, 0, 0, 8};
        for (int kind = 1; kind <= 7; kind++) {
            check.due("place of kind " + kind, ofKind(kind).hintPlace(), places[kind]);
        }
    }

    @Sentence("NONE if none is possible.")
    static void promise16_none(Check check) {
        check.due("empty", new NumberPlace().hintPlace(), -1);
        check.due("dead", Desks.dead().hintPlace(), -1);
        check.due("solved", Desks.solved().hintPlace(), -1);
        NumberPlace x = puzzle();
        check.due("some", x.hintPlace() >= 0, true);
        x.deduce(500);
        check.due("behind all", x.hintPlace(), -1);
    }

    @Sentence({"Returns the number of deductions in the log.", "Returns 0 to 100."})
    static void promise17_logged(Check check) {
        NumberPlace x = new NumberPlace();
        check.due("empty", x.logged(), 0);
        x.give(0, 1);
        check.due("given", x.logged(), 0);
        x.deduce(0);
        check.due("no step", x.logged(), 0);
        x.deduce(1);
        check.due("one", x.logged(), 1);
        x.hint();
        x.needs(1);
        x.solutions(20);
        check.due("those of hints, needs and solving do not count", x.logged(), 1);
        for (int steps = 98; steps <= 102; steps++) {
            NumberPlace y = SolvingSentences.longWay();
            y.deduce(steps);
            check.due("behind " + steps, y.logged(), Math.min(100, steps));
        }
    }

    @Sentence({"Returns something about a deduction in the log.", "Returns that value.",
        "- `what`: 0 its kind, 1 its place, 2 the number of candidates removed",
        "- `index`: index of the deduction, 0 for the oldest one"})
    static void promise18_step(Check check) {
        NumberPlace x = Check.desk("1", ";t:27:34;k3:20:33");
        check.due("three", x.deduce(3), 3);
        int[][] due = {{1, 0, 12}, {3, 0, 2}, {4, 1, 8}};
        for (int k = 0; k < 3; k++) {
            for (int what = 0; what < 3; what++) {
                check.due("deduction " + k + ", " + what, x.step(k, what), due[k][what]);
            }
        }
    }

    @Sentence("Throws `IndexOutOfBoundsException` if there is no such deduction")
    static void promise18_noDeduction(Check check) {
        Refused.index(check, "empty log", x -> x.step(0, 0), NumberPlace::new);
        int logged = Desks.busy().logged();
        check.due("the last one", Desks.busy().step(logged - 1, 0) > 0, true);
        for (int index : new int[] {-1, logged, logged + 1, 99, 100, Integer.MIN_VALUE, Integer.MAX_VALUE}) {
            Refused.index(check, "index " + index, x -> x.step(index, 0), Desks::busy);
        }
        NumberPlace x = SolvingSentences.longWay();
        x.deduce(500);
        check.due("index 99", x.step(99, 0) > 0, true);
        check.due("index 100", Script.program(x, "step", 100, 0, 0), Script.INDEX);
        x.strike(0, 1);
        check.due("emptied", Script.program(x, "step", 0, 0, 0), Script.INDEX);
    }

    @Sentence("Throws `IllegalArgumentException` if what is out of range")
    static void promise18_noWhat(Check check) {
        for (int what : new int[] {-1, 3, 4, Integer.MIN_VALUE, Integer.MAX_VALUE}) {
            Refused.argument(check, "what " + what, x -> x.step(0, what), Desks::busy);
        }
    }

    @Sentence({"Counts the deductions of a kind that would be done from the present position until none is possible.",
        "Returns their number."})
    static void promise19_needs(Check check) {
        NumberPlace[] desks = {puzzle(), Check.desk("1..4....2..5...1...3....6....2..5..1", ""),
            Check.desk("", ";t:0:9;k3:20:27;a:13:7:8"), Check.desk("1....1", ""), ofKind(7)};
        for (NumberPlace x : desks) {
            int[] due = new int[8];
            long before = x.digest();
            for (int kind = 1; kind <= 7; kind++) {
                due[kind] = x.needs(kind);
            }
            check.due("needs changes nothing", x.digest(), before);
            x.deduce(500);
            check.due("the log has all", x.logged() < 100, true);
            for (int k = 0; k < x.logged(); k++) {
                due[x.step(k, 0)]--;
            }
            for (int kind = 1; kind <= 7; kind++) {
                check.due("kind " + kind, due[kind], 0);
                check.due("none is left of kind " + kind, x.needs(kind), 0);
            }
        }
    }

    @Sentence("from the present position until none is possible.")
    static void promise19_moreThanTheLogKeeps(Check check) {
        NumberPlace x = SolvingSentences.longWay();
        int all = 0;
        for (int kind = 1; kind <= 7; kind++) {
            all += x.needs(kind);
            check.due("empty, kind " + kind, new NumberPlace().needs(kind), 0);
            check.due("dead, kind " + kind, Desks.dead().needs(kind), 0);
            check.due("solved, kind " + kind, Desks.solved().needs(kind), 0);
            check.due("alone, kind " + kind, ofKind(kind).needs(kind) > 0, true);
        }
        check.due("all kinds", all, x.deduce(500));
        check.due("more than a hundred", all > 100, true);
        NumberPlace singles = new NumberPlace();
        singles.make(3, 36);
        check.due("36 singles", singles.needs(1), 36);
        singles.deduce(10);
        check.due("26 singles", singles.needs(1), 26);
    }

    @Sentence({"- `kind`: 1 to 7", "Throws `IllegalArgumentException` if kind is out of range"})
    static void promise19_noKind(Check check) {
        for (int kind : new int[] {0, 8, -1, 9, Integer.MIN_VALUE, Integer.MAX_VALUE}) {
            Refused.argument(check, "kind " + kind, x -> x.needs(kind));
        }
    }
}
