/** Promises 9 to 13: what tells about constraints and cells. */
final class ReadingPromises {
    private static final int[] NO_CELLS = {-1, 36, 37, -36, Integer.MIN_VALUE, Integer.MAX_VALUE};
    private static final int[] NO_CONSTRAINTS = {-1, 4, 5, 8, Integer.MIN_VALUE, Integer.MAX_VALUE};
    private static final int[][] BUSY = {{20, 21, 28}, {30, 31}, {2, 15}, {27, 28}};

    @Sentence({"Returns something about a constraint.", "Returns that value.",
        "- `what`: 0 its kind, 1 its sum (0 if it is no cage), 2 the number of its cells"})
    static void promise09_constraint(Check check) {
        int[][] due = {{0, 8, 3}, {2, 0, 2}, {1, 0, 2}, {0, 5, 2}};
        NumberPlace x = Desks.busy();
        for (int i = 0; i < 4; i++) {
            for (int what = 0; what < 3; what++) {
                check.due("constraint " + i + ", " + what, x.constraint(i, what), due[i][what]);
            }
        }
        NumberPlace full = Desks.full();
        int[] sizes = {4, 4, 6, 1, 1, 1, 1, 1};
        int[] sums = {14, 0, 0, 7, 0, 0, 7, 0};
        for (int i = 0; i < 8; i++) {
            check.due("kind of " + i, full.constraint(i, 0), i % 3);
            check.due("sum of " + i, full.constraint(i, 1), sums[i]);
            check.due("size of " + i, full.constraint(i, 2), sizes[i]);
        }
    }

    @Sentence({"- `constraint`: number of a constraint", "Throws `IndexOutOfBoundsException` if there is no such constraint"})
    static void promise09_noConstraint(Check check) {
        for (int constraint : NO_CONSTRAINTS) {
            Refused.index(check, "constraint " + constraint, x -> x.constraint(constraint, 0));
        }
        Refused.index(check, "none at all", x -> x.constraint(0, 0), NumberPlace::new);
        Refused.index(check, "constraint 8", x -> x.constraint(8, 0), Desks::full);
        NumberPlace x = new NumberPlace();
        x.addConstraint(2, 0, 0);
        x.begin();
        check.due("none behind begin", Script.program(x, "constraint", 0, 0, 0), Script.INDEX);
    }

    @Sentence("Throws `IllegalArgumentException` if what is out of range")
    static void promise09_noWhat(Check check) {
        for (int what : new int[] {-1, 3, 4, Integer.MIN_VALUE, Integer.MAX_VALUE}) {
            Refused.argument(check, "what " + what, x -> x.constraint(0, what), Desks::busy);
            Refused.argument(check, "what " + what, x -> x.constraint(3, what), Desks::busy);
        }
    }

    @Sentence({"Returns a cell of a constraint.", "Returns the cell.", "- `place`: its place, from 0"})
    static void promise10_cellOf(Check check) {
        NumberPlace x = Desks.busy();
        for (int i = 0; i < 4; i++) {
            for (int place = 0; place < BUSY[i].length; place++) {
                check.due("cell " + place + " of " + i, x.cellOf(i, place), BUSY[i][place]);
            }
        }
        NumberPlace full = Desks.full();
        for (int place = 0; place < 6; place++) {
            check.due("cell " + place + " of six", full.cellOf(2, place), 35 - place);
        }
    }

    @Sentence({"- `constraint`: number of a constraint", "Throws `IndexOutOfBoundsException` if there is no such"
        + " constraint or place"})
    static void promise10_noConstraint(Check check) {
        for (int constraint : NO_CONSTRAINTS) {
            Refused.index(check, "constraint " + constraint, x -> x.cellOf(constraint, 0));
        }
        Refused.index(check, "none at all", x -> x.cellOf(0, 0), NumberPlace::new);
        Refused.index(check, "constraint 8", x -> x.cellOf(8, 0), Desks::full);
    }

    @Sentence("or place")
    static void promise10_noPlace(Check check) {
        for (int i = 0; i < 4; i++) {
            int number = i;
            for (int place : new int[] {-1, BUSY[i].length, 6, 7, Integer.MIN_VALUE, Integer.MAX_VALUE}) {
                Refused.index(check, "place " + place + " of " + i, x -> x.cellOf(number, place), Desks::busy);
            }
        }
        Refused.index(check, "place 4 of a full cage", x -> x.cellOf(0, 4), Desks::full);
        Refused.index(check, "place 6 of a full thermometer", x -> x.cellOf(2, 6), Desks::full);
        Refused.index(check, "place 1 of one", x -> x.cellOf(7, 1), Desks::full);
        NumberPlace x = Check.desk("", ";t:0:1:2");
        x.extend(0, 3);
        x.undo();
        check.due("a place that was undone", Script.program(x, "cellOf", 0, 3, 0), Script.INDEX);
    }

    @Sentence({"Returns a number.", "Returns that number.",
        "- `what`: 0 constraints, 1 givens, 2 placed cells, 3 candidates of all cells,"})
    static void promise11_count(Check check) {
        int[] none = {0, 0, 0, 216};
        int[] solved = {0, 36, 36, 36};
        NumberPlace x = Check.desk("12....3", ";k8:20:21:22;t:30:31");
        int[] some = {2, 3, 0, 33 * 6 + 3};
        for (int what = 0; what < 4; what++) {
            check.due("empty, " + what, new NumberPlace().count(what), none[what]);
            check.due("solved, " + what, Desks.solved().count(what), solved[what]);
            check.due("some, " + what, x.count(what), some[what]);
        }
        x.deduce(1);
        check.due("one is placed", x.count(2), 1);
        check.due("12 less", x.count(3), 33 * 6 + 3 - 10);
        x.strike(0, 1);
        check.due("placed without a candidate", x.count(2), 1);
        check.due("one less", x.count(3), 33 * 6 + 3 - 11);
        check.due("eight constraints", Desks.full().count(0), 8);
    }

    @Sentence({"4 1 if the position is dead, otherwise 0,", "5 1 if it is solved, otherwise 0"})
    static void promise11_deadAndSolved(Check check) {
        check.due("empty", new NumberPlace().count(4) + new NumberPlace().count(5), 0);
        check.due("dead", Desks.dead().count(4) * 10 + Desks.dead().count(5), 10);
        check.due("solved", Desks.solved().count(4) * 10 + Desks.solved().count(5), 1);
        NumberPlace x = Desks.solved();
        x.strike(35, x.cell(35, 0));
        check.due("all placed, but dead", x.count(4) * 10 + x.count(5), 10);
    }

    @Sentence("Throws `IllegalArgumentException` if what is out of range")
    static void promise11_noWhat(Check check) {
        for (int what : new int[] {-1, 6, 7, Integer.MIN_VALUE, Integer.MAX_VALUE}) {
            Refused.argument(check, "what " + what, x -> x.count(what));
        }
    }

    @Sentence({"Returns the candidates of a cell.", "Returns a bit set of digits."})
    static void promise12_candidates(Check check) {
        for (int cell = 0; cell < 36; cell++) {
            NumberPlace x = new NumberPlace();
            int due = 126;
            for (int digit = 1; digit <= 6; digit++) {
                check.due("candidates of " + cell, x.candidates(cell), due);
                x.strike(cell, digit);
                due -= 1 << digit;
            }
            check.due("none of " + cell, x.candidates(cell), 0);
        }
    }

    @Sentence({"- `cell`: a cell", "Throws `IndexOutOfBoundsException` if there is no such cell"})
    static void promise12_noCell(Check check) {
        check.due("cell 0", new NumberPlace().candidates(0), 126);
        check.due("cell 35", new NumberPlace().candidates(35), 126);
        for (int cell : NO_CELLS) {
            Refused.index(check, "cell " + cell, x -> x.candidates(cell));
        }
    }

    @Sentence({"Returns something about a cell.", "Returns that value.",
        "- `what`: 0 its digit if it is placed and has a candidate, otherwise 0,"})
    static void promise13_digit(Check check) {
        for (int digit = 1; digit <= 6; digit++) {
            NumberPlace x = new NumberPlace();
            check.due("not placed", x.cell(35, 0), 0);
            x.give(35, digit);
            check.due("given, not placed", x.cell(35, 0), 0);
            x.deduce(1);
            check.due("placed", x.cell(35, 0), digit);
            x.strike(35, digit);
            check.due("placed without a candidate", x.cell(35, 0), 0);
            x.restart();
            check.due("not placed any more", x.cell(35, 0), 0);
        }
    }

    @Sentence("1 its given digit, 0 if it is not given,")
    static void promise13_given(Check check) {
        NumberPlace x = Check.desk("1.....", "");
        check.due("given by a text", x.cell(0, 1), 1);
        check.due("not given", x.cell(1, 1), 0);
        x.give(1, 2);
        x.give(1, 3);
        check.due("given last", x.cell(1, 1), 3);
        check.due("though it has no candidate", x.candidates(1), 0);
        x.strike(0, 1);
        check.due("struck, given still", x.cell(0, 1), 1);
        x.restart();
        check.due("given behind restart", x.cell(1, 1), 3);
        x.begin();
        check.due("nothing behind begin", x.cell(0, 1) + x.cell(1, 1), 0);
        x.undo();
        check.due("undone", x.cell(0, 1) * 10 + x.cell(1, 1), 13);
        for (int digit = 1; digit <= 6; digit++) {
            x.give(35, digit);
            check.due("digit " + digit, x.cell(35, 1), digit);
        }
        Check.strikeAll(x, 20, 1, 2, 3, 4, 5);
        check.due("one candidate is no given", x.cell(20, 1), 0);
    }

    @Sentence("2 the number of its peers")
    static void promise13_peers(Check check) {
        NumberPlace x = Check.desk("", ";k14:0:15:22:35;k9:0:15:34;k7:0:1;a:0:33;t:0:32");
        check.due("two cages far away, one near", x.cell(0, 2), 12 + 3 + 1);
        check.due("in two cages", x.cell(15, 2), 12 + 3);
        check.due("in one cage", x.cell(34, 2), 12 + 2);
        check.due("in a near one", x.cell(1, 2), 12);
        check.due("an arrow", x.cell(33, 2), 12);
        check.due("a thermometer", x.cell(32, 2), 12);
        check.due("in none", x.cell(20, 2), 12);
    }

    @Sentence({"- `cell`: a cell", "Throws `IndexOutOfBoundsException` if there is no such cell"})
    static void promise13_noCell(Check check) {
        check.due("cell 0", new NumberPlace().cell(0, 2), 12);
        check.due("cell 35", new NumberPlace().cell(35, 2), 12);
        for (int cell : NO_CELLS) {
            for (int what = 0; what <= 2; what++) {
                int which = what;
                Refused.index(check, "cell " + cell + ", " + what, x -> x.cell(cell, which));
            }
        }
    }

    @Sentence("Throws `IllegalArgumentException` if what is out of range")
    static void promise13_noWhat(Check check) {
        for (int what : new int[] {-1, 3, 4, Integer.MIN_VALUE, Integer.MAX_VALUE}) {
            Refused.argument(check, "what " + what, x -> x.cell(0, what));
            Refused.argument(check, "what " + what, x -> x.cell(35, what));
        }
    }
}
