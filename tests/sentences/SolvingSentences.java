import java.util.Random;

/** The heads "Solving" and "Log" of the description. */
final class SolvingSentences {
    @Sentence("To solve a position: deductions are done until none is possible.")
    static void solving_deductionsFirst(Check check) {
        NumberPlace x = new NumberPlace();
        x.make(1, 0);
        check.due("deductions are enough", x.guesses(), 0);
        check.due("and are many", x.deduce(500) >= 36, true);
        for (int seed : new int[] {334, 367, 4091}) {
            NumberPlace many = new NumberPlace();
            many.make(seed, 0);
            check.due("no guess in " + seed, many.guesses(), 0);
            check.due("many deductions in " + seed, many.deduce(500) > 45, true);
            check.due("enough in " + seed, many.count(5), 1);
        }
        NumberPlace y = Check.desk("1..4....2..5...1...3....6....2..5..1", "");
        int guesses = y.guesses();
        check.due("not enough", guesses, 1);
        for (int steps = 1; steps < 20; steps++) {
            y.deduce(steps);
            check.due("guesses begin when no deduction is possible", y.guesses(), guesses);
        }
    }

    @Sentence("If the position is dead, there is no solution on this way.")
    static void solving_deadHasNoSolution(Check check) {
        NumberPlace x = Desks.dead();
        check.due("solutions", x.solutions(20), 0);
        check.due("guesses", x.guesses(), -1);
        check.due("solved", x.solved(0), 0);
        NumberPlace y = Check.desk("", ";t:0:1:2:3:4:5;t:6:7:8:9:10:11");
        check.due("dead by deductions", y.solutions(1), 0);
        NumberPlace z = Desks.solved();
        z.strike(5, z.cell(5, 0));
        check.due("all placed, but dead", z.solutions(1), 0);
        check.due("no guesses", z.guesses(), -1);
    }

    @Sentence("If it is solved, its digits are a solution.")
    static void solving_solvedIsASolution(Check check) {
        NumberPlace x = Desks.solved();
        check.due("one", x.solutions(20), 1);
        check.due("without guesses", x.guesses(), 0);
        for (int cell = 0; cell < 36; cell++) {
            check.due("digit of " + cell, x.solved(cell), x.cell(cell, 0));
        }
    }

    @Sentence("Otherwise, of the cells with more than one candidate, the one with the fewest,")
    static void solving_cellWithTheFewest(Check check) {
        for (int cell : new int[] {1, 2, 3, 4, 5, 6, 7, 8, 12, 18, 24, 30}) {
            NumberPlace x = new NumberPlace();
            Check.strikeAll(x, cell, 3, 4, 5, 6);
            check.due("two candidates in " + cell + ", before cell 0", x.solved(cell), 1);
            check.due("cell 0 has what is left", x.solved(0) > 1, true);
            NumberPlace y = new NumberPlace();
            Check.strikeAll(y, cell, 6);
            check.due("five candidates in " + cell + ", before cell 0", y.solved(cell), 1);
        }
        for (int cell = 0; cell < 36; cell++) {
            NumberPlace x = new NumberPlace();
            Check.strikeAll(x, cell, 3, 4, 5);
            Check.strikeAll(x, 35 - cell, 1, 2);
            plainly(check, x, 2);
            Check.strikeAll(x, cell, 1);
            plainly(check, x, 2);
        }
        NumberPlace x = new NumberPlace();
        Check.strikeAll(x, 2, 1, 2, 3);
        Check.strikeAll(x, 31, 3, 4, 5, 6);
        Check.strikeAll(x, 32, 1, 3, 4, 5);
        check.due("the cell with two before the one with three", x.solved(31), 1);
        plainly(check, x, 2);
    }

    /** The plain desk, which follows the document's words, must say the same of the struck position. */
    private static void plainly(Check check, NumberPlace x, int least) {
        PlainDesk plain = new PlainDesk();
        for (int cell = 0; cell < 36; cell++) {
            int open = x.candidates(cell);
            for (int digit = 1; digit <= 6; digit++) {
                if ((open >> digit & 1) == 0) {
                    plain.strike(cell, digit);
                }
            }
        }
        check.due("as the plain desk: guesses", x.guesses(), plain.guesses());
        check.due("at least some guesses", x.guesses() >= least, true);
        for (int cell = 0; cell < 36; cell++) {
            check.due("as the plain desk: digit of " + cell, x.solved(cell), plain.solved(cell));
        }
    }

    @Sentence("of several the lowest, is chosen;")
    static void solving_lowestOfTheFewest(Check check) {
        for (int[] pair : new int[][] {{0, 5}, {3, 33}, {2, 7}, {30, 35}, {14, 20}, {9, 10}}) {
            NumberPlace x = new NumberPlace();
            Check.strikeAll(x, pair[1], 1, 4, 5, 6);
            Check.strikeAll(x, pair[0], 1, 4, 5, 6);
            check.due("the lower cell of " + pair[0] + ", " + pair[1], x.solved(pair[0]), 2);
            check.due("the higher one has what is left", x.solved(pair[1]), 3);
            plainly(check, x, 2);
        }
    }

    /** Guesses that turn out wrong are followed by the next candidate, and are counted. */
    @Sentence("for each of its candidates, in ascending order, a guess is made:")
    static void solving_wrongGuesses(Check check) {
        Random random = new Random(5);
        int wrongOnes = 0;
        for (int n = 0; n < 300; n++) {
            NumberPlace x = new NumberPlace();
            for (int k = 0; k < 110; k++) {
                int cell = random.nextInt(36);
                int digit = random.nextInt(6) + 1;
                if ((3 * (cell / 6 % 2) + cell / 12 + cell % 6) % 6 + 1 != digit) {
                    x.strike(cell, digit);
                }
            }
            if (firstGuessIsWrong(x)) {
                wrongOnes++;
                plainly(check, x, 2);
            }
        }
        check.due("some guesses were wrong", wrongOnes > 10, true);
    }

    @Sentence("for each of its candidates, in ascending order, a guess is made:")
    static void solving_guessesAscend(Check check) {
        NumberPlace x = new NumberPlace();
        for (int digit = 1; digit < 6; digit++) {
            check.due("the lowest is guessed first", x.solved(0), digit);
            x.strike(0, digit);
        }
        check.due("the last one", x.solved(0), 6);
    }

    private static boolean firstGuessIsWrong(NumberPlace x) {
        x.deduce(500);
        int chosen = -1;
        for (int cell = 0; cell < 36; cell++) {
            int size = Integer.bitCount(x.candidates(cell));
            if (size > 1 && (chosen < 0 || size < Integer.bitCount(x.candidates(chosen)))) {
                chosen = cell;
            }
        }
        boolean wrong = chosen >= 0
                && !x.possible(chosen, Integer.numberOfTrailingZeros(x.candidates(chosen))) && x.solutions(1) > 0;
        x.undo();
        return wrong;
    }

    @Sentence("on a copy, the cell keeps only this candidate, and the copy is solved in the same way.")
    static void solving_onACopy(Check check) {
        NumberPlace x = new NumberPlace();
        long before = x.digest();
        check.due("guesses in guesses", x.guesses(), 18);
        x.solutions(20);
        x.solved(35);
        x.superfluous();
        x.possible(3, 3);
        x.needed();
        check.due("nothing has changed", x.digest(), before);
        check.due("and none is placed", x.count(2), 0);
    }

    static final String LONG_WAY =
            ";t:0:15;k16:23:26:33:19;k12:23:22:27:20;a:9:25;k12:22:28:35;a:34:33:2;k7:25:31;k9:12:30:25";

    /** A position with more than a hundred deductions. */
    static NumberPlace longWay() {
        NumberPlace x = Check.desk("", LONG_WAY);
        int[] struck = {49, 19, 138, 178, 100, 32, 200, 11, 7, 34, 73, 93, 23, 87, 174, 111, 170, 192, 52,
            122, 116, 127, 156, 197, 14, 204, 60, 212, 72, 70, 140, 179, 32, 102, 46, 129, 214, 86, 120};
        for (int k : struck) {
            x.strike(k / 6, k % 6 + 1);
        }
        return x;
    }

    @Sentence("The latest 100 deductions are kept, the oldest first,")
    static void log_latestHundred(Check check) {
        int all = longWay().deduce(500);
        check.due("more than a hundred", all > 101, true);
        int[][] due = new int[all][3];
        for (int done = 1; done <= all; done++) {
            NumberPlace x = longWay();
            x.deduce(done - 1);
            x.deduce(1);
            check.due("logged behind " + done, x.logged(), Math.min(done, 100));
            for (int what = 0; what < 3; what++) {
                due[done - 1][what] = x.step(x.logged() - 1, what);
            }
            int first = Math.max(0, done - 100);
            for (int what = 0; what < 3; what++) {
                check.due("the oldest of " + done, x.step(0, what), due[first][what]);
            }
        }
        NumberPlace x = longWay();
        x.deduce(500);
        for (int k = 0; k < 100; k++) {
            for (int what = 0; what < 3; what++) {
                check.due("deduction " + k + ", " + what, x.step(k, what), due[all - 100 + k][what]);
            }
        }
        Refused.index(check, "the hundred-first", y -> y.step(100, 0), SolvingSentences::behindAll);
    }

    private static NumberPlace behindAll() {
        NumberPlace x = longWay();
        x.deduce(500);
        return x;
    }

    /** The log goes round: compared with a plain one, as far behind its hundredth deduction as was found. */
    @Sentence("The latest 100 deductions are kept, the oldest first,")
    static void log_farBehindHundred(Check check) {
        int[] struck = {6, 14, 21, 22, 23, 27, 28, 29, 31, 39, 40, 46, 49, 53, 55, 56, 60, 65, 66, 68, 69, 78, 80, 88,
            89, 96, 97, 100, 101, 104, 107, 120, 124, 132, 133, 137, 140, 143, 148, 149, 153, 154, 155, 165, 169, 179,
            180, 181, 182, 185, 188, 191, 194, 201, 203, 206, 207};
        NumberPlace x = new NumberPlace();
        PlainDesk plain = new PlainDesk();
        String text = Desks.DOTS + ";t:35:15;a:2:26;t:35:0;a:18:27;t:29:19;a:15:12;t:14:7:10:28;t:35:21";
        for (int k = 0; k < text.length(); k++) {
            check.due("byte " + k, x.append(text.charAt(k)), plain.append(text.charAt(k)));
        }
        check.due("parse", x.parse(), plain.parse());
        for (int k : struck) {
            check.due("candidate " + k, x.strike(k / 6, k % 6 + 1), plain.strike(k / 6, k % 6 + 1) != 0);
        }
        int all = 0;
        while (plain.hint() != 0) {
            all++;
            plain.deduce(1);
            x.deduce(1);
            if (all > 98) {
                check.due("the log behind " + all, x.digest(), plain.digest());
                check.due("as many", x.logged(), Math.min(100, all));
            }
        }
        check.due("deductions", all, 109);
        x.undo();
        plain.undo();
        check.due("the last one undone", x.digest(), plain.digest());
        x.deduce(5);
        plain.deduce(5);
        check.due("and done", x.digest(), plain.digest());
    }

    @Sentence("The latest 100 deductions are kept")
    static void log_fullComesBack(Check check) {
        NumberPlace x = longWay();
        x.deduce(101);
        int oldest = x.step(0, 0) * 10000 + x.step(0, 1) * 100 + x.step(0, 2);
        int latest = x.step(99, 0) * 10000 + x.step(99, 1) * 100 + x.step(99, 2);
        long before = x.digest();
        x.deduce(1);
        x.undo();
        check.due("the oldest", x.step(0, 0) * 10000 + x.step(0, 1) * 100 + x.step(0, 2), oldest);
        check.due("the latest", x.step(99, 0) * 10000 + x.step(99, 1) * 100 + x.step(99, 2), latest);
        x.deduce(0);
        check.due("as before", x.digest(), before);
    }

    @Sentence("The latest 100 deductions are kept")
    static void log_wholeComesBack(Check check) {
        String other = Desks.DOTS.substring(0, 6) + "6" + Desks.DOTS.substring(7)
                + ";k7:34:7;k10:10:35:14;a:35:18:4:27;a:6:24:15;k11:7:4:5;k6:30:13;a:16:24:19;a:4:3";
        for (int steps : new int[] {50, 99, 100, 101, 102}) {
            NumberPlace due = longWay();
            due.deduce(steps);
            NumberPlace x = longWay();
            x.deduce(steps);
            x.clearText();
            Check.write(x, other);
            x.parse();
            check.due("another long log", x.deduce(500), 96);
            x.undo();
            x.undo();
            check.due("as many as before", x.logged(), due.logged());
            for (int k = 0; k < due.logged(); k++) {
                check.due("kind of " + k, x.step(k, 0), due.step(k, 0));
                check.due("place of " + k, x.step(k, 1), due.step(k, 1));
            }
        }
    }

    @Sentence({"each with its kind, its place (1: the cell; 2 and 7: the unit; 3 to 5: the constraint; 6: the box, 0 to"
        + " 5), and the number of candidates that were removed (1: from peers)."})
    static void log_placesOfEachKind(Check check) {
        logs(check, "single", Check.desk(Desks.DOTS.substring(1) + "6", ""), 1, 35, 12);
        NumberPlace column = new NumberPlace();
        NumberPlace box = new NumberPlace();
        for (int k = 0; k < 5; k++) {
            column.strike(Geometry.unit(11)[k], 1);
            box.strike(Geometry.unit(17)[k], 1);
        }
        logs(check, "only place in a column", column, 2, 11, 5);
        logs(check, "only place in a box", box, 2, 17, 5);
        logs(check, "thermometer", Check.desk("", ";a:0:9;a:0:9;t:8:15"), 3, 2, 2);
        logs(check, "cage", Check.desk("", ";a:0:9;k3:8:15"), 4, 1, 8);
        logs(check, "arrow", Check.desk("", ";k7:0:9;k7:0:9;k7:0:9;a:8:15:28"), 5, 3, 3);
        NumberPlace locked = new NumberPlace();
        for (int cell : new int[] {27, 28, 33, 34}) {
            locked.strike(cell, 2);
        }
        logs(check, "locked", locked, 6, 5, 4);
        NumberPlace pair = new NumberPlace();
        Check.strikeAll(pair, 28, 1, 2, 3, 4);
        Check.strikeAll(pair, 33, 1, 2, 3, 4);
        logs(check, "pair", pair, 7, 17, 8);
    }

    private static void logs(Check check, String what, NumberPlace x, int kind, int place, int removed) {
        x.deduce(1);
        check.due(what + ": logged", x.logged(), 1);
        check.due(what + ": kind", x.step(0, 0), kind);
        check.due(what + ": place", x.step(0, 1), place);
        check.due(what + ": removed", x.step(0, 2), removed);
    }

    @Sentence("Each successful call of begin(), give(), strike(), addConstraint(), extend(), restart(), make() and"
            + " parse() empties the log.")
    static void log_emptied(Check check) {
        Object[][] calls = {{"begin", 0, 0, 0}, {"give", 0, 1, 0}, {"give", 20, 1, 0}, {"strike", 0, 2, 0},
            {"strike", 20, 2, 0}, {"addConstraint", 1, 5, 0}, {"extend", 0, 5, 0}, {"restart", 0, 0, 0},
            {"make", 1, 36, 0}, {"parse", 0, 0, 0}};
        for (Object[] call : calls) {
            NumberPlace x = logged();
            Script.program(x, (String) call[0], (int) call[1], (int) call[2], (int) call[3]);
            check.due("log behind " + call[0], x.logged(), 0);
            x.undo();
            check.due("log behind its undo", x.logged(), 3);
            check.due("its first deduction", x.step(0, 0) * 100 + x.step(0, 1), 100);
        }
    }

    private static NumberPlace logged() {
        NumberPlace x = Check.desk("1234", ";t:30:31");
        x.deduce(3);
        return x;
    }

    @Sentence("Each successful call")
    static void log_notEmptiedByOthers(Check check) {
        NumberPlace x = logged();
        x.append('x');
        check.due("a parse that fails", x.parse(), -10 - 36 - 8);
        x.clearText();
        String[] refused = {"give", "strike", "addConstraint", "extend", "make", "deduce"};
        for (String name : refused) {
            check.due(name + " is refused", Script.program(x, name, -1, -1, -1) < -900000, true);
        }
        for (String name : Script.NAMES) {
            if (!"begin give strike addConstraint extend restart make parse undo".contains(name)) {
                Script.program(x, name, 0, 0, 0);
                check.due("log behind " + name, x.logged(), 3);
            }
        }
        x.deduce(1);
        check.due("a deduction is added", x.logged(), 4);
    }
}
