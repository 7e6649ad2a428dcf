/** Promises 1 to 8: the new desk, and what makes and changes the puzzle. */
final class PuzzlePromises {
    private static final int[] NO_CELLS = {-1, 36, 37, -36, Integer.MIN_VALUE, Integer.MAX_VALUE};
    private static final int[] NO_DIGITS = {0, 7, -1, 8, 33, -31, Integer.MIN_VALUE, Integer.MAX_VALUE};

    /** Empty: no givens, no constraints, all candidates, nothing placed, no log. */
    private static void empty(Check check, NumberPlace x) {
        int[] counts = {0, 0, 0, 216, 0, 0};
        for (int what = 0; what <= 5; what++) {
            check.due("count " + what, x.count(what), counts[what]);
        }
        for (int cell = 0; cell < 36; cell++) {
            check.due("candidates of " + cell, x.candidates(cell), 126);
            check.due("digit of " + cell, x.cell(cell, 0), 0);
            check.due("given of " + cell, x.cell(cell, 1), 0);
            check.due("peers of " + cell, x.cell(cell, 2), 12);
        }
        check.due("log", x.logged(), 0);
        check.due("hint", x.hint(), 0);
        check.due("hintPlace", x.hintPlace(), -1);
    }

    @Sentence("Creates a desk with an empty grid without constraints.")
    static void promise01_newDesk(Check check) {
        NumberPlace x = new NumberPlace();
        empty(check, x);
        check.due("no text", x.clearText(), 0);
        Refused.state(check, "no saved state", y -> y.undo(), NumberPlace::new);
        Refused.index(check, "no constraint", y -> y.constraint(0, 0), NumberPlace::new);
        Refused.index(check, "no deduction", y -> y.step(0, 0), NumberPlace::new);
        NumberPlace y = new NumberPlace();
        y.give(0, 1);
        empty(check, new NumberPlace());
    }

    @Sentence("Makes the puzzle empty: no givens, no constraints, all candidates. Undoable.")
    static void promise02_begin(Check check) {
        NumberPlace x = Desks.busy();
        x.begin();
        empty(check, x);
        check.due("the text stays", x.parse() >= 0, true);
        NumberPlace full = Desks.full();
        full.begin();
        empty(check, full);
        NumberPlace dead = Desks.dead();
        dead.begin();
        empty(check, dead);
        NumberPlace solved = Desks.solved();
        solved.begin();
        empty(check, solved);
        check.due("undo", solved.undo() >= 0, true);
        check.due("solved again", solved.count(5), 1);
    }

    @Sentence("Returns the number of cells that were placed.")
    static void promise02_answer(Check check) {
        check.due("none", new NumberPlace().begin(), 0);
        check.due("none of the given ones", Check.desk("123", "").begin(), 0);
        check.due("all", Desks.solved().begin(), 36);
        NumberPlace x = Check.desk("123", "");
        x.deduce(2);
        check.due("two", x.begin(), 2);
        check.due("none behind it", x.begin(), 0);
        NumberPlace y = Check.desk("123", "");
        y.deduce(3);
        y.strike(1, 2);
        check.due("one of them without candidates", y.begin(), 3);
    }

    @Sentence("Gives a cell a digit: the cell keeps only this candidate (none, if it was not one). Undoable.")
    static void promise03_give(Check check) {
        for (int cell = 0; cell < 36; cell++) {
            for (int digit = 1; digit <= 6; digit++) {
                NumberPlace x = new NumberPlace();
                x.give(cell, digit);
                check.due("candidates of " + cell, x.candidates(cell), 1 << digit);
                check.due("given of " + cell, x.cell(cell, 1), digit);
                check.due("no other cell", x.count(3), 211);
                check.due("one given", x.count(1), 1);
                x.give(cell, 7 - digit);
                check.due("it was not one", x.candidates(cell), 0);
                check.due("given all the same", x.cell(cell, 1), 7 - digit);
                check.due("one given still", x.count(1), 1);
                check.due("undo", x.undo(), 1);
                check.due("as before", x.candidates(cell) * 10 + x.cell(cell, 1), (1 << digit) * 10 + digit);
            }
        }
        NumberPlace struck = new NumberPlace();
        struck.strike(7, 3);
        struck.give(7, 3);
        check.due("struck before", struck.candidates(7), 0);
        check.due("dead", struck.count(4), 1);
    }

    @Sentence("(The cell is not placed by this.)")
    static void promise03_notPlaced(Check check) {
        NumberPlace x = new NumberPlace();
        x.give(5, 2);
        check.due("not placed", x.count(2) + x.cell(5, 0), 0);
        check.due("peers keep the digit", x.candidates(4) & x.candidates(35), 126);
        x.deduce(1);
        x.give(5, 2);
        check.due("placed before, placed still", x.count(2) * 10 + x.cell(5, 0), 12);
        x.give(5, 3);
        check.due("placed without a candidate", x.count(2) * 10 + x.cell(5, 0), 10);
    }

    @Sentence("Returns the candidates that it had.")
    static void promise03_answer(Check check) {
        NumberPlace x = new NumberPlace();
        check.due("all", x.give(35, 6), 126);
        check.due("one", x.give(35, 1), 64);
        check.due("none", x.give(35, 1), 0);
        x.strike(0, 1);
        x.strike(0, 6);
        check.due("four", x.give(0, 3), 4 + 8 + 16 + 32);
    }

    @Sentence({"- `cell`: a cell", "Throws `IndexOutOfBoundsException` if there is no such cell"})
    static void promise03_noCell(Check check) {
        check.due("cell 0", new NumberPlace().give(0, 1), 126);
        check.due("cell 35", new NumberPlace().give(35, 1), 126);
        for (int cell : NO_CELLS) {
            Refused.index(check, "cell " + cell, x -> x.give(cell, 1));
        }
    }

    @Sentence({"- `digit`: 1 to 6", "Throws `IllegalArgumentException` if digit is out of range"})
    static void promise03_noDigit(Check check) {
        check.due("digit 1", new NumberPlace().give(9, 1), 126);
        check.due("digit 6", new NumberPlace().give(9, 6), 126);
        for (int digit : NO_DIGITS) {
            Refused.argument(check, "digit " + digit, x -> x.give(9, digit));
        }
    }

    @Sentence("Removes a candidate by hand. Undoable.")
    static void promise04_strike(Check check) {
        for (int cell = 0; cell < 36; cell++) {
            for (int digit = 1; digit <= 6; digit++) {
                NumberPlace x = new NumberPlace();
                x.strike(cell, digit);
                check.due("candidates of " + cell, x.candidates(cell), 126 - (1 << digit));
                check.due("no other one", x.count(3), 215);
                check.due("undo", x.undo(), 0);
                check.due("as before", x.candidates(cell), 126);
            }
        }
        NumberPlace x = Desks.solved();
        x.strike(14, x.cell(14, 0));
        check.due("placed still", x.count(2), 36);
        check.due("given still", x.count(1), 36);
        check.due("no digit", x.cell(14, 0), 0);
    }

    @Sentence("Returns whether it was one.")
    static void promise04_answer(Check check) {
        NumberPlace x = new NumberPlace();
        check.due("it was", x.strike(20, 4), true);
        check.due("not any more", x.strike(20, 4), false);
        check.due("nor does that change anything", x.candidates(20), 126 - 16);
        x.give(21, 3);
        check.due("the given one", x.strike(21, 3), true);
        check.due("another one", x.strike(21, 4), false);
    }

    @Sentence({"- `cell`: a cell", "Throws `IndexOutOfBoundsException` if there is no such cell"})
    static void promise04_noCell(Check check) {
        check.due("cell 0", new NumberPlace().strike(0, 1), true);
        check.due("cell 35", new NumberPlace().strike(35, 1), true);
        for (int cell : NO_CELLS) {
            Refused.index(check, "cell " + cell, x -> x.strike(cell, 1) ? 1 : 0);
        }
    }

    @Sentence({"- `digit`: 1 to 6", "Throws `IllegalArgumentException` if digit is out of range"})
    static void promise04_noDigit(Check check) {
        check.due("digit 1", new NumberPlace().strike(9, 1), true);
        check.due("digit 6", new NumberPlace().strike(9, 6), true);
        for (int digit : NO_DIGITS) {
            Refused.argument(check, "digit " + digit, x -> x.strike(9, digit) ? 1 : 0);
        }
    }

    @Sentence("Adds a constraint with one cell, to which further ones are to be added.")
    static void promise05_addConstraint(Check check) {
        NumberPlace x = new NumberPlace();
        x.addConstraint(2, 35, 0);
        x.addConstraint(0, 4, 17);
        check.due("one cell", x.constraint(0, 2), 1);
        check.due("this one", x.cellOf(0, 0), 35);
        check.due("a further one", x.extend(0, 0), 2);
        check.due("the other has one still", x.constraint(1, 2), 1);
        check.due("the other's sum", x.constraint(1, 1), 17);
    }

    @Sentence({"(A constraint with fewer than 2 cells has no effect.)", "Undoable."})
    static void promise05_noEffect(Check check) {
        for (int kind = 0; kind <= 2; kind++) {
            for (int cell = 0; cell < 36; cell += 7) {
                NumberPlace x = new NumberPlace();
                x.addConstraint(kind, cell, kind == 0 ? 24 : 0);
                check.due("no hint", x.hint(), 0);
                check.due("no peers", x.cell(cell, 2), 12);
                check.due("no solution less", x.solutions(20), 20);
                check.due("guesses as without", x.guesses(), 18);
                x.strike(cell, 6);
                x.strike(cell, 1);
                check.due("no hint with fewer candidates", x.hint(), 0);
                x.give(cell, 3);
                check.due("each digit is possible", x.solutions(1), 1);
                x.undo();
                x.undo();
                x.undo();
                check.due("undo", x.undo(), 0);
                check.due("none is left", x.count(0), 0);
            }
        }
    }

    /** Nor has it an effect where others have one, or where others stood before. */
    @Sentence("(A constraint with fewer than 2 cells has no effect.)")
    static void promise05_noEffectBesideOthers(Check check) {
        for (int kind = 0; kind <= 2; kind++) {
            NumberPlace x = Check.desk("", ";t:20:27;k11:3:10;a:14:21:28");
            int others = Check.desk("", ";t:20:27;k11:3:10;a:14:21:28").deduce(500);
            for (int k = 0; k < 3; k++) {
                x.addConstraint(kind, 31, kind == 0 ? 24 : 0);
            }
            check.due("the others' deductions only", x.deduce(500), others);
            check.due("its cell has all candidates", x.candidates(31), 126);
            NumberPlace y = Check.desk("", ";t:20:27;k11:3:10;a:14:21:28;t:4:11;k3:0:9;a:6:13:24");
            y.deduce(1);
            y.begin();
            for (int k = 0; k < 6; k++) {
                y.addConstraint(kind, 31, kind == 0 ? 24 : 0);
            }
            y.strike(31, 3);
            check.due("where others stood before", y.hint(), 0);
            check.due("and were to be looked at", y.deduce(500), 0);
        }
    }

    @Sentence("Returns the number of the constraint.")
    static void promise05_answer(Check check) {
        NumberPlace x = new NumberPlace();
        for (int k = 0; k < 8; k++) {
            check.due("number", x.addConstraint(1, 7, 0), k);
        }
        x.undo();
        check.due("the last one again", x.addConstraint(0, 7, 7), 7);
        check.due("behind those of a text", Check.desk("", ";t:0:1;t:2:3").addConstraint(2, 7, 0), 2);
    }

    @Sentence({"- `cell`: a cell", "Throws `IndexOutOfBoundsException` if there is no such cell"})
    static void promise05_noCell(Check check) {
        check.due("cell 0", new NumberPlace().addConstraint(2, 0, 0), 0);
        check.due("cell 35", new NumberPlace().addConstraint(2, 35, 0), 0);
        for (int cell : NO_CELLS) {
            Refused.index(check, "cell " + cell, x -> x.addConstraint(2, cell, 0));
        }
    }

    @Sentence({"- `kind`: 0 to 2", "Throws `IllegalArgumentException` if kind or sum is out of range"})
    static void promise05_noKind(Check check) {
        check.due("kind 0", new NumberPlace().addConstraint(0, 9, 5), 0);
        check.due("kind 1", new NumberPlace().addConstraint(1, 9, 0), 0);
        check.due("kind 2", new NumberPlace().addConstraint(2, 9, 0), 0);
        for (int kind : new int[] {-1, 3, 4, -2, Integer.MIN_VALUE, Integer.MAX_VALUE}) {
            Refused.argument(check, "kind " + kind, x -> x.addConstraint(kind, 9, 0));
            Refused.argument(check, "kind " + kind + " of 5", x -> x.addConstraint(kind, 9, 5));
        }
    }

    @Sentence("- `sum`: 1 to 24 for a cage, 0 for the others")
    static void promise05_noSum(Check check) {
        for (int sum = 1; sum <= 24; sum++) {
            NumberPlace x = new NumberPlace();
            check.due("a cage of " + sum, x.addConstraint(0, 9, sum), 0);
            check.due("its sum", x.constraint(0, 1), sum);
        }
        for (int sum : new int[] {-1, 0, 25, -5, 26, Integer.MIN_VALUE, Integer.MAX_VALUE}) {
            Refused.argument(check, "a cage of " + sum, x -> x.addConstraint(0, 9, sum));
        }
        for (int sum : new int[] {-1, 1, 24, 25, Integer.MIN_VALUE, Integer.MAX_VALUE}) {
            Refused.argument(check, "an arrow of " + sum, x -> x.addConstraint(1, 9, sum));
            Refused.argument(check, "a thermometer of " + sum, x -> x.addConstraint(2, 9, sum));
        }
    }

    @Sentence("Throws `IllegalStateException` if there are 8 constraints")
    static void promise05_ninth(Check check) {
        NumberPlace x = new NumberPlace();
        for (int k = 0; k < 7; k++) {
            x.addConstraint(2, k, 0);
        }
        check.due("an eighth", x.addConstraint(2, 9, 0), 7);
        for (int kind = 0; kind <= 2; kind++) {
            int sort = kind;
            Refused.state(check, "a ninth of kind " + kind, y -> y.addConstraint(sort, 9, sort == 0 ? 5 : 0), Desks::full);
        }
    }

    @Sentence("Appends a cell to a constraint. Undoable.")
    static void promise06_extend(Check check) {
        NumberPlace x = new NumberPlace();
        x.addConstraint(0, 35, 7);
        x.addConstraint(2, 3, 0);
        int[] cells = {7, 20, 0, 35, 14};
        for (int cell : cells) {
            x.extend(1, cell);
        }
        check.due("the first one", x.cellOf(1, 0), 3);
        for (int k = 0; k < 5; k++) {
            check.due("in this order " + k, x.cellOf(1, k + 1), cells[k]);
        }
        check.due("the other is as it was", x.constraint(0, 2), 1);
        check.due("undo", x.undo(), 3);
        check.due("one cell less", x.constraint(1, 2), 5);
        x.extend(1, 15);
        check.due("another one in its place", x.cellOf(1, 5), 15);
    }

    @Sentence("Appends a cell to a constraint.")
    static void promise06_hasEffect(Check check) {
        NumberPlace x = Check.desk("", ";t:30:31");
        x.deduce(500);
        check.due("nothing to do", x.hint(), 0);
        x.extend(0, 32);
        check.due("the new cell counts", x.hint() * 10 + x.hintPlace(), 30);
        x.undo();
        check.due("and not any more", x.hint(), 0);
        x.addConstraint(0, 0, 3);
        check.due("one cell", x.hint(), 0);
        x.extend(1, 15);
        check.due("two cells", x.hint() * 10 + x.hintPlace(), 41);
        check.due("peers", x.cell(15, 2), 13);
        x.undo();
        check.due("no peers any more", x.cell(15, 2) + x.cell(0, 2), 24);
    }

    @Sentence("Returns the number of its cells.")
    static void promise06_answer(Check check) {
        NumberPlace x = new NumberPlace();
        for (int kind = 0; kind <= 2; kind++) {
            x.addConstraint(kind, 0, kind == 0 ? 9 : 0);
            for (int cells = 2; cells <= (kind == 2 ? 6 : 4); cells++) {
                check.due("cells of " + kind, x.extend(kind, 5 * cells), cells);
            }
        }
    }

    @Sentence({"- `constraint`: number of a constraint", "Throws `IndexOutOfBoundsException` if there is no such"
        + " constraint or cell"})
    static void promise06_noConstraint(Check check) {
        Refused.index(check, "none at all", x -> x.extend(0, 5), NumberPlace::new);
        check.due("number 0", Desks.busy().extend(0, 5), 4);
        check.due("number 3", Desks.busy().extend(3, 5), 3);
        for (int constraint : new int[] {-1, 4, 8, Integer.MIN_VALUE, Integer.MAX_VALUE}) {
            Refused.index(check, "constraint " + constraint, x -> x.extend(constraint, 5), Desks::busy);
        }
        check.due("number 7", Desks.full().extend(7, 5), 2);
        Refused.index(check, "constraint 8", x -> x.extend(8, 5), Desks::full);
        Refused.index(check, "one of before", x -> x.extend(0, 5), () -> {
            NumberPlace x = Desks.full();
            x.begin();
            return x;
        });
    }

    @Sentence({"- `cell`: a cell", "if there is no such constraint or cell"})
    static void promise06_noCell(Check check) {
        check.due("cell 0", Desks.busy().extend(0, 0), 4);
        check.due("cell 35", Desks.busy().extend(0, 35), 4);
        for (int cell : NO_CELLS) {
            Refused.index(check, "cell " + cell, x -> x.extend(0, cell), Desks::busy);
        }
    }

    @Sentence("Throws `IllegalStateException` if the constraint has the cell already,")
    static void promise06_hasTheCell(Check check) {
        for (int constraint = 0; constraint <= 3; constraint++) {
            NumberPlace y = Desks.busy();
            for (int place = 0; place < y.constraint(constraint, 2); place++) {
                int number = constraint;
                int cell = y.cellOf(constraint, place);
                Refused.state(check, "constraint " + constraint + " has " + cell, x -> x.extend(number, cell), Desks::busy);
            }
        }
        NumberPlace one = new NumberPlace();
        one.addConstraint(0, 0, 5);
        check.due("cell 0 is not told for others", one.addConstraint(2, 35, 0), 1);
        check.due("and can stand there", one.extend(1, 0), 2);
    }

    @Sentence("or has 4 cells (a thermometer 6)")
    static void promise06_isFull(Check check) {
        Refused.state(check, "a fifth of a cage", x -> x.extend(0, 27), Desks::full);
        Refused.state(check, "a fifth of an arrow", x -> x.extend(1, 27), Desks::full);
        Refused.state(check, "a seventh of a thermometer", x -> x.extend(2, 27), Desks::full);
        NumberPlace x = Check.desk("", ";k14:0:1:6;a:0:1:6;t:0:1:2:3:4");
        check.due("a fourth of a cage", x.extend(0, 7), 4);
        check.due("a fourth of an arrow", x.extend(1, 7), 4);
        check.due("a sixth of a thermometer", x.extend(2, 5), 6);
    }

    @Sentence("Sets all cells back to all candidates, except those that were given (by give(), parse() or make()), which"
            + " keep only their given digit;")
    static void promise07_restart(Check check) {
        NumberPlace x = Check.desk("1", ";k3:20:21");
        x.give(35, 5);
        x.give(30, 2);
        x.give(30, 4);
        x.give(0, 3);
        Check.strikeAll(x, 9, 1, 2, 3, 4, 5, 6);
        Check.strikeAll(x, 35, 5);
        check.due("restart", x.restart(), 3);
        for (int cell = 0; cell < 36; cell++) {
            int due = cell == 0 ? 8 : cell == 35 ? 32 : cell == 30 ? 16 : 126;
            check.due("candidates of " + cell, x.candidates(cell), due);
        }
        check.due("constraints stay", x.count(0), 1);
        NumberPlace made = new NumberPlace();
        made.make(7, 20);
        made.deduce(500);
        check.due("made", made.restart(), 20);
        check.due("candidates of a made one", made.count(3), 20 + 16 * 6);
    }

    @Sentence({"none is placed.", "Undoable."})
    static void promise07_nonePlaced(Check check) {
        NumberPlace x = Desks.solved();
        x.restart();
        check.due("none", x.count(2), 0);
        check.due("all are given", x.count(1), 36);
        check.due("undo", x.undo() >= 0, true);
        check.due("all again", x.count(2), 36);
    }

    @Sentence("Returns the number of given cells.")
    static void promise07_answer(Check check) {
        check.due("none", new NumberPlace().restart(), 0);
        check.due("all", Desks.solved().restart(), 36);
        check.due("two", Check.desk("1.2", "").restart(), 2);
        NumberPlace x = Check.desk("1.2", "");
        x.give(0, 5);
        x.give(35, 5);
        check.due("one twice", x.restart(), 3);
        x.undo();
        x.undo();
        check.due("one undone", x.restart(), 2);
    }

    @Sentence("Makes a puzzle without constraints.")
    static void promise08_withoutConstraints(Check check) {
        NumberPlace x = Desks.full();
        x.deduce(5);
        int left = x.make(12, 0);
        check.due("no constraints", x.count(0), 0);
        check.due("the same as on a new desk", new NumberPlace().make(12, 0), left);
        NumberPlace y = new NumberPlace();
        y.make(12, 0);
        for (int cell = 0; cell < 36; cell++) {
            check.due("given of " + cell, x.cell(cell, 1), y.cell(cell, 1));
            check.due("candidates of " + cell, x.candidates(cell), x.cell(cell, 1) == 0 ? 126 : 1 << x.cell(cell, 1));
            check.due("peers of " + cell, x.cell(cell, 2), 12);
        }
        check.due("none is placed", x.count(2), 0);
    }

    /** The draws and orders as the document tells them; the places of a full grid's digits and of its cells. */
    private static final class Draws {
        private long s;
        final int[] p = new int[6];
        final int[] order = new int[36];

        Draws(int seed) {
            s = seed;
            shuffle(p, 1);
            shuffle(order, 0);
        }

        private void shuffle(int[] row, int first) {
            for (int k = 0; k < row.length; k++) {
                row[k] = first + k;
            }
            for (int i = row.length - 1; i >= 1; i--) {
                s = (1103515245 * s + 12345) % 2147483648L;
                int other = (int) (s / 65536 % (i + 1));
                int value = row[i];
                row[i] = row[other];
                row[other] = value;
            }
        }

        int digit(int r, int c) {
            return p[(3 * (r % 2) + r / 2 + c) % 6];
        }
    }

    @Sentence({"There is a number s, which is the seed at first; a draw of k makes it (1103515245 * s + 12345) modulo"
        + " 2147483648, and gives (s / 65536, rounded down) modulo k. First the digits 1 to 6 are put in a random order"
        + " p: p is 1, ..., 6; for i = 5, 4, ..., 1 the places i and (a draw of i + 1) are exchanged. The cell in row r"
        + " and column c has in the full grid the digit p((3 * (r modulo 2) + r / 2 + c) modulo 6) (rounded down, with"
        + " places from 0)."})
    static void promise08_fullGrid(Check check) {
        for (int seed : new int[] {0, 1, 2, 3, 65535, 65536, 123456, 999998, 999999}) {
            NumberPlace x = new NumberPlace();
            Draws draws = new Draws(seed);
            check.due("all givens", x.make(seed, 36), 36);
            for (int cell = 0; cell < 36; cell++) {
                check.due("digit of " + cell + ", seed " + seed, x.cell(cell, 1), draws.digit(cell / 6, cell % 6));
            }
            check.due("a solution", x.solutions(2), 1);
        }
    }

    /** Takes givens away as the document tells it, with solutions counted by plain backtracking. */
    private static int[] taken(int seed, int givens) {
        Draws draws = new Draws(seed);
        int[] given = new int[36];
        for (int cell = 0; cell < 36; cell++) {
            given[cell] = draws.digit(cell / 6, cell % 6);
        }
        int left = 36;
        for (int k = 0; k < 36 && left > givens; k++) {
            int digit = given[draws.order[k]];
            given[draws.order[k]] = 0;
            NumberPlace x = new NumberPlace();
            for (int cell = 0; cell < 36; cell++) {
                if (given[cell] != 0) {
                    x.give(cell, given[cell]);
                }
            }
            if (new Backtrack(x, 2).found == 1) {
                left--;
            } else {
                given[draws.order[k]] = digit;
            }
        }
        return given;
    }

    @Sentence({"Then the cells are put in a random order in the same way (0, ..., 35; i = 35, ..., 1). All cells are"
        + " givens at first; for the cells in this order, the given of the cell is taken away if the puzzle without it"
        + " still has exactly one solution, until a number of givens are left, or all cells have been tried. Undoable."})
    static void promise08_takesGivensAway(Check check) {
        for (int seed : new int[] {0, 1, 2, 4711, 500000, 999999}) {
            for (int givens : new int[] {0, 8, 12, 20, 30, 35, 36}) {
                NumberPlace x = new NumberPlace();
                int left = x.make(seed, givens);
                int[] due = taken(seed, givens);
                int count = 0;
                for (int cell = 0; cell < 36; cell++) {
                    check.due("given of " + cell + ", seed " + seed, x.cell(cell, 1), due[cell]);
                    count += due[cell] != 0 ? 1 : 0;
                }
                check.due("left of seed " + seed, left, count);
                check.due("undo", x.undo(), 0);
                check.due("nothing is given", x.count(1), 0);
            }
        }
    }

    @Sentence("Makes a puzzle without constraints.")
    static void promise08_manyOnOneDesk(Check check) {
        NumberPlace x = new NumberPlace();
        for (int seed = 0; seed < 12; seed++) {
            NumberPlace y = new NumberPlace();
            check.due("as many as on a new desk", x.make(seed, seed), y.make(seed, seed));
            for (int cell = 0; cell < 36; cell++) {
                check.due("as on a new desk " + cell, x.cell(cell, 1), y.cell(cell, 1));
            }
        }
    }

    @Sentence("until a number of givens are left, or all cells have been tried.")
    static void promise08_stops(Check check) {
        for (int seed = 100; seed < 110; seed++) {
            int fewest = new NumberPlace().make(seed, 0);
            check.due("all cells were tried", fewest > 0, true);
            for (int givens = 0; givens <= 36; givens++) {
                NumberPlace x = new NumberPlace();
                check.due("stops at " + givens, x.make(seed, givens), Math.max(fewest, givens));
            }
            NumberPlace x = new NumberPlace();
            x.make(seed, 0);
            check.due("each one left is needed", x.needed(), fewest);
        }
    }

    @Sentence("Returns the number of givens that are left.")
    static void promise08_answer(Check check) {
        for (int seed = 0; seed < 20; seed++) {
            NumberPlace x = new NumberPlace();
            check.due("left of " + seed, x.make(seed, seed), x.count(1));
        }
    }

    @Sentence({"- `seed`: 0 to 999999", "Throws `IllegalArgumentException` if seed or givens is out of range"})
    static void promise08_noSeed(Check check) {
        check.due("seed 0", new NumberPlace().make(0, 36), 36);
        check.due("seed 999999", new NumberPlace().make(999999, 36), 36);
        for (int seed : new int[] {-1, 1000000, -2, 1000001, Integer.MIN_VALUE, Integer.MAX_VALUE}) {
            Refused.argument(check, "seed " + seed, x -> x.make(seed, 36));
        }
    }

    @Sentence("- `givens`: 0 to 36, the number of givens at which it stops")
    static void promise08_noGivens(Check check) {
        check.due("givens 0", new NumberPlace().make(5, 0) > 0, true);
        check.due("givens 36", new NumberPlace().make(5, 36), 36);
        for (int givens : new int[] {-1, 37, -36, 100, Integer.MIN_VALUE, Integer.MAX_VALUE}) {
            Refused.argument(check, "givens " + givens, x -> x.make(5, givens));
        }
        Refused.argument(check, "neither", x -> x.make(-1, 37));
    }
}
