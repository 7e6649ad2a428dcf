import java.util.function.Supplier;

/** Promises 20 to 25: solutions, and what follows from them. */
final class SolvingPromises {
    /** Puzzles with as many solutions as stand before them, by plain backtracking. */
    private static final Object[][] PUZZLES = {
        {0, "11", ""}, {0, "1", ";t:0:1;t:1:0"}, {0, "123456456123", ";k11:12:13;k11:18:19"},
        {1, "123456456123231564564231312645645312", ""},
        {20, ".....6.5..23...56.5...3..4.6.....3.5", ""},
        {21, "12.4........2..5..5.1.3....61..1....", ""}};

    private static NumberPlace desk(Object[] puzzle) {
        return Check.desk((String) puzzle[1], (String) puzzle[2]);
    }

    @Sentence({"Counts the solutions of the present position.", "Returns the number of solutions, at most most."})
    static void promise20_solutions(Check check) {
        for (Object[] puzzle : PUZZLES) {
            int all = (int) puzzle[0];
            check.due("by plain backtracking", new Backtrack(desk(puzzle), 50).found, all);
            for (int most = 1; most <= 20; most++) {
                check.due("anew, at most " + most, desk(puzzle).solutions(most), Math.min(most, all));
            }
            NumberPlace up = desk(puzzle);
            NumberPlace down = desk(puzzle);
            for (int most = 1; most <= 20; most++) {
                check.due("upwards " + most, up.solutions(most), Math.min(most, all));
                check.due("downwards " + (21 - most), down.solutions(21 - most), Math.min(21 - most, all));
            }
        }
    }

    /** Puzzles with few solutions, most of which come by guesses at where a digit goes. */
    private static final Object[][] FEW = {
        {5, ".2...............1..12............4.", ";a:26:20:25;k10:5:11:16;a:2:7:0"},
        {15, ".....6..............................", ";t:31:30:32:25;a:13:8:12;a:20:14:15;k17:20:15:21:26"},
        {17, "1.........2...4.......3.........2.45", ";k15:12:6:13:19"},
        {4, "", ";a:27:34:33:22;t:31:24:19;a:19:14:12;k4:0:1;a:17:16:9;k9:26:19;k12:5:4:10"},
        {6, ".....6..6.....................6.....", ";t:18:12:19;a:26:27:22:21;a:9:10:3"},
        {11, ".2.......1....4................1....", ";t:22:17:11:16:15;t:31:30;t:8:14:7"},
        {6, "........61..2.........3.3...........", ";a:32:27:33;a:4:11:17;t:27:20"},
        {18, "...............5...6.23.....1.......", ";t:9:2:3;t:32:31:30:24;a:6:7:0"},
        {16, ".............3............5.........", ";a:33:34:27;a:9:16;a:8:3:14;a:28:23;t:5:4:11;t:15:22"},
        {12, ".......56......5........3..6.......5", ";a:14:21;k15:23:28:35:22"},
        {6, "12.4..45.........1.....4...6....2.4.", ";k10:22:15:10"},
        {14, ".........12..3..................23.5", ";t:7:6:0;t:28:27:20"},
        {4, "..............456......4..5......3..", ";a:6:12:0:1;k11:21:14:7"},
        {9, "...4...........5..5...3.3........3..", ";t:21:27;t:17:22;t:8:2:1;t:30:31:25"},
        {3, "...................6..3...5.........", ";t:2:9:16:23;t:5:10:11;a:33:32:26;a:24:30:31"},
        {7, "...45....1......6....23.....1..12...", ";k12:12:6:1"},
        // Without givens: digits have three places and more where the fewest candidates are four and more.
        {1, "", ";a:13:29:27;t:14:21:20;k10:26:9:27;k7:1:7;k9:27:28:23;k5:5:10;k15:21:31:3:35;k6:33:27"},
        {2, "", ";t:28:29:34;k9:1:8:15;k13:33:32:26:27;k7:14:7;k12:17:4:8:11;a:21:26:20;k13:0:7:2:23;k6:22:31"},
        {2, "", ";t:4:6:16;t:35:34:28;k16:1:13:27:26;k9:1:11;k12:11:16:23;k9:35:30:25;a:20:34:15;k9:30:31"},
        {4, "", ";k14:35:11:28:21;k9:20:16:13;k9:24:25:32;a:29:28:33;k8:5:11;k7:7:20;k6:14:32;k8:11:16"},
        {7, "", ";k9:2:5;t:4:3:10;k11:35:29:34;k9:32:35:31;k9:25:32;k8:8:20:4;k10:26:27:25;k13:7:2:1:0"},
        {19, "", ";k14:1:6:7:0;k13:17:22:15;t:1:6:13;a:13:14:8;t:20:15:22;k5:31:32;k7:27:33;k5:29:28"},
        {3, "", ";k9:6:7:1;k13:23:1:33:18;k8:9:8;t:10:15:16;t:4:30:2;t:7:11:20;k11:6:13:12;k18:23:13:31:19"},
        {1, "", ";k6:4:3;k8:28:11;k10:24:3:5;a:12:18:19;k6:32:33;t:7:23:17;k13:16:23:29:35;k9:19:26:25"},
        {1, "", ";k10:14:19:20;a:13:14:20;k6:17:4;t:0:6:13;k8:6:24:31;k9:23:33:1;k5:29:34;a:18:2:28"}};

    @Sentence("Counts the solutions of the present position.")
    static void promise20_fewSolutions(Check check) {
        for (int k = 0; k < FEW.length; k++) {
            Object[] puzzle = FEW[k];
            Backtrack plain = new Backtrack(desk(puzzle), 50);
            int all = (int) puzzle[0];
            check.due("by plain backtracking", plain.found, all);
            check.due("by the desk, " + puzzle[1] + puzzle[2], desk(puzzle).solutions(20), all);
            NumberPlace many = desk(FEW[(k + 5) % FEW.length]);
            many.superfluous();
            many.clearText();
            Check.write(many, (puzzle[1] + Desks.DOTS).substring(0, 36) + puzzle[2]);
            many.parse();
            int unseen = 0;
            for (int cell = 0; cell < 36; cell++) {
                unseen += Integer.bitCount(many.candidates(cell) & ~plain.seen[cell]);
            }
            check.due("superfluous on a desk that solved another one, " + puzzle[1] + puzzle[2], many.superfluous(), unseen);
            NumberPlace x = desk(puzzle);
            for (int cell = 0; cell < 36; cell += 5) {
                for (int digit = 1; digit <= 6; digit++) {
                    check.due(digit + " in " + cell, x.possible(cell, digit), (plain.seen[cell] >> digit & 1) != 0);
                }
            }
            check.due("some candidates are right", x.guesses() >= 0, true);
        }
    }

    /** Whatever was asked before, an answer is about the position of now. */
    @Sentence("of the present position.")
    static void promise20_askedBeforeAChange(Check check) {
        Object[][] calls = {{"begin", 0, 0, 0}, {"give", 8, 4, 0}, {"strike", 8, 5, 0}, {"addConstraint", 2, 8, 0},
            {"extend", 3, 34, 0}, {"restart", 0, 0, 0}, {"make", 1, 20, 0}, {"deduce", 9, 0, 0}, {"parse", 0, 0, 0},
            {"undo", 0, 0, 0}};
        for (Object[] call : calls) {
            Readings.alike(check, "asked before " + call[0], () -> {
                NumberPlace x = Desks.busy();
                askAll(x);
                Script.program(x, (String) call[0], (int) call[1], (int) call[2], (int) call[3]);
                return x;
            }, () -> {
                NumberPlace x = Desks.busy();
                Script.program(x, (String) call[0], (int) call[1], (int) call[2], (int) call[3]);
                return x;
            });
            Readings.alike(check, "asked before the undo of " + call[0], () -> {
                NumberPlace x = Desks.busy();
                Script.program(x, (String) call[0], (int) call[1], (int) call[2], (int) call[3]);
                askAll(x);
                Script.program(x, "undo", 0, 0, 0);
                return x;
            }, () -> {
                NumberPlace x = Desks.busy();
                Script.program(x, (String) call[0], (int) call[1], (int) call[2], (int) call[3]);
                Script.program(x, "undo", 0, 0, 0);
                return x;
            });
        }
        check.due("the desk has solutions", Desks.busy().solutions(20) > 1, true);
        check.due("and guesses", Desks.busy().guesses() > 0, true);
    }

    private static void askAll(NumberPlace x) {
        x.superfluous();
        x.solutions(20);
        x.guesses();
        x.solved(0);
        x.possible(0, 1);
        x.needed();
        x.hint();
    }

    @Sentence("of the present position.")
    static void promise20_presentPosition(Check check) {
        NumberPlace x = Check.desk(".....6.5..23...56.5...3..4.6.....3.5", "");
        x.deduce(500);
        check.due("deductions lose none", x.solutions(20), 20);
        int cell = 0;
        while (Integer.bitCount(x.candidates(cell)) < 2) {
            cell++;
        }
        int both = 0;
        for (int digit = 1; digit <= 6; digit++) {
            if ((x.candidates(cell) >> digit & 1) != 0) {
                int candidates = x.candidates(cell);
                for (int other = 1; other <= 6; other++) {
                    if (other != digit) {
                        x.strike(cell, other);
                    }
                }
                int found = x.solutions(20);
                check.due("with " + digit, found, new Backtrack(x, 50).found);
                both += found;
                x.parse();
                x.deduce(500);
                check.due("as before", x.candidates(cell), candidates);
            }
        }
        check.due("each of them has one of the digits", both, 20);
        x.begin();
        check.due("empty", x.solutions(20), 20);
        x.undo();
        x.strike(cell, Integer.numberOfTrailingZeros(x.candidates(cell)));
        check.due("a struck candidate", x.solutions(20) < 20, true);
    }

    @Sentence({"- `most`: 1 to 20: the counting stops at this number",
        "Throws `IllegalArgumentException` if most is out of range"})
    static void promise20_noMost(Check check) {
        check.due("most 1", new NumberPlace().solutions(1), 1);
        check.due("most 20", new NumberPlace().solutions(20), 20);
        for (int most : new int[] {0, 21, -1, 22, Integer.MIN_VALUE, Integer.MAX_VALUE}) {
            Refused.argument(check, "most " + most, x -> x.solutions(most));
        }
    }

    @Sentence({"Returns the number of guesses that are made until the first solution is found.",
        "Returns the number of guesses, wrong ones included;"})
    static void promise21_guesses(Check check) {
        check.due("solved", Desks.solved().guesses(), 0);
        NumberPlace made = new NumberPlace();
        made.make(1, 0);
        check.due("deductions are enough", made.guesses(), 0);
        check.due("empty", new NumberPlace().guesses(), 18);
        String[][] puzzles = {{"1..4....2..5...1...3....6....2..5..1", ""}, {"1.....2", ";t:20:14:15"},
            {"12", ";k9:20:27:34;a:3:10:17"}, {".....6.5..23...56.5...3..4.6.....3.5", ""},
            {"", ";t:0:1:2:3:4;a:10:15:20"}, {"", ";k10:24:25:30:31;k17:26:27:32:33"},
            {"1.................................1.", ";k9:1:6:7;k9:5:4:11"}};
        int guesses = 0;
        for (String[] puzzle : puzzles) {
            PlainDesk plain = plain(puzzle);
            int due = plain.guesses();
            NumberPlace x = Check.desk(puzzle[0], puzzle[1]);
            check.due("as the plain desk, " + puzzle[0] + puzzle[1], x.guesses(), due);
            check.due("again", x.guesses(), due);
            guesses += due;
        }
        check.due("many guesses", guesses > 30, true);
    }

    private static PlainDesk plain(String[] puzzle) {
        PlainDesk plain = new PlainDesk();
        String text = puzzle[0] + Desks.DOTS.substring(puzzle[0].length()) + puzzle[1];
        for (int k = 0; k < text.length(); k++) {
            plain.append(text.charAt(k));
        }
        plain.parse();
        return plain;
    }

    @Sentence("wrong ones included;")
    static void promise21_wrongOnes(Check check) {
        NumberPlace x = Check.desk("", ";k15:34:25:33:32;t:24:19;t:35:30");
        check.due("more guesses than cells", x.guesses() > 1000, true);
        NumberPlace y = Check.desk("", ";a:0:9:22;k24:0:1");
        y.give(0, 2);
        check.due("no solution, no guesses", y.guesses(), -1);
    }

    @Sentence("NONE if there is no solution.")
    static void promise21_none(Check check) {
        for (Object[] puzzle : PUZZLES) {
            check.due("none or some", desk(puzzle).guesses() == -1, (int) puzzle[0] == 0);
        }
        check.due("dead", Desks.dead().guesses(), -1);
        NumberPlace fish = new NumberPlace();
        for (int row = 0; row < 6; row += 2) {
            for (int column : new int[] {1, 2, 4, 5}) {
                fish.strike(6 * row + column, 6);
            }
        }
        check.due("not dead", fish.count(4), 0);
        check.due("but without a solution", fish.guesses(), -1);
    }

    @Sentence({"Returns a digit of the first solution.", "Returns the digit;"})
    static void promise22_solved(Check check) {
        String[][] puzzles = {{"", ""}, {"1..4....2..5...1...3....6....2..5..1", ""}, {"1.....2", ";t:20:14:15"},
            {".....6.5..23...56.5...3..4.6.....3.5", ""}, {"12.4........2..5..5.1.3....61..1....", ""}};
        for (String[] puzzle : puzzles) {
            PlainDesk plain = plain(puzzle);
            NumberPlace x = Check.desk(puzzle[0], puzzle[1]);
            for (int cell = 0; cell < 36; cell++) {
                check.due("digit of " + cell, x.solved(cell), plain.solved(cell));
                check.due("asked first", Check.desk(puzzle[0], puzzle[1]).solved(cell), plain.solved(cell));
            }
            check.due("none is placed by it", x.count(2), 0);
        }
        NumberPlace y = new NumberPlace();
        y.solutions(20);
        check.due("the first, not the last that was counted", y.solved(0), 1);
    }

    @Sentence("0 if there is no solution.")
    static void promise22_none(Check check) {
        for (Object[] puzzle : PUZZLES) {
            for (int cell = 0; cell < 36; cell += 5) {
                check.due("none or some", desk(puzzle).solved(cell) == 0, (int) puzzle[0] == 0);
            }
        }
        NumberPlace x = Check.desk("1", "");
        check.due("there is one", x.solved(0), 1);
        x.give(5, 1);
        check.due("given or not", x.solved(0) + x.solved(5) + x.solved(35), 0);
        NumberPlace y = Desks.solved();
        y.strike(35, y.cell(35, 0));
        check.due("placed, but dead", y.solved(0), 0);
    }

    @Sentence({"- `cell`: a cell", "Throws `IndexOutOfBoundsException` if there is no such cell"})
    static void promise22_noCell(Check check) {
        check.due("cell 0", Desks.solved().solved(0), Desks.solved().cell(0, 0));
        check.due("cell 35", Desks.solved().solved(35), Desks.solved().cell(35, 0));
        for (int cell : new int[] {-1, 36, 37, -36, Integer.MIN_VALUE, Integer.MAX_VALUE}) {
            Refused.index(check, "cell " + cell, x -> x.solved(cell));
            Refused.index(check, "cell " + cell + ", no solution", x -> x.solved(cell), Desks::dead);
        }
    }

    @Sentence({"Counts the candidates that occur in no solution. (All solutions are looked at.)",
        "Returns their number;"})
    static void promise23_superfluous(Check check) {
        for (Object[] puzzle : PUZZLES) {
            for (int asked = 0; asked <= 2; asked++) {
                NumberPlace x = desk(puzzle);
                Backtrack plain = new Backtrack(x, 50);
                int due = 0;
                for (int cell = 0; cell < 36; cell++) {
                    due += Integer.bitCount(x.candidates(cell) & ~plain.seen[cell]);
                }
                if (asked > 0) {
                    x.solutions(asked == 1 ? 1 : 20);
                }
                check.due("of " + puzzle[1] + puzzle[2], x.superfluous(), plain.found > 20 ? -1 : due);
            }
        }
        check.due("all, if there is no solution", Check.desk("11", "").superfluous(), 2 + 34 * 6);
        check.due("all that a dead position has", Desks.dead().superfluous(), Desks.dead().count(3));
        check.due("none, if it is solved", Desks.solved().superfluous(), 0);
        NumberPlace x = Check.desk(".....6.5..23...56.5...3..4.6.....3.5", "");
        int before = x.superfluous();
        int removed = x.count(3);
        x.deduce(500);
        removed -= x.count(3);
        check.due("deductions remove only such", x.superfluous(), before - removed);
    }

    @Sentence("NONE if there are more than 20 solutions.")
    static void promise23_moreThanTwenty(Check check) {
        check.due("20", desk(PUZZLES[4]).superfluous() >= 0, true);
        check.due("21", desk(PUZZLES[5]).superfluous(), -1);
        check.due("very many", new NumberPlace().superfluous(), -1);
        NumberPlace x = desk(PUZZLES[5]);
        x.solutions(20);
        check.due("21, asked behind 20", x.superfluous(), -1);
        check.due("and 20 again", x.solutions(20), 20);
    }

    @Sentence({"Tells whether a digit in a cell would be right: whether the position in which the cell keeps only this"
        + " candidate has a solution.", "Returns whether it has."})
    static void promise24_possible(Check check) {
        for (Object[] puzzle : PUZZLES) {
            NumberPlace x = desk(puzzle);
            Backtrack plain = new Backtrack(x, 50);
            long before = x.digest();
            for (int cell = 0; cell < 36; cell++) {
                for (int digit = 1; digit <= 6; digit++) {
                    check.due(digit + " in " + cell, x.possible(cell, digit), (plain.seen[cell] >> digit & 1) != 0);
                }
            }
            check.due("nothing changes", x.digest(), before);
        }
        NumberPlace x = new NumberPlace();
        for (int cell = 0; cell < 36; cell += 7) {
            for (int digit = 1; digit <= 6; digit++) {
                check.due("empty", x.possible(cell, digit), true);
                x.strike(cell, digit);
                check.due("not a candidate", x.possible(cell, digit), false);
                x.undo();
            }
        }
        NumberPlace y = new NumberPlace();
        y.strike(0, 3);
        check.due("the others are", y.possible(0, 4), true);
        check.due("dead", Desks.dead().possible(0, 1), false);
        check.due("the cell itself is dead", Desks.dead().possible(20, 1), false);
    }

    @Sentence({"- `cell`: a cell", "Throws `IndexOutOfBoundsException` if there is no such cell"})
    static void promise24_noCell(Check check) {
        check.due("cell 0", new NumberPlace().possible(0, 1), true);
        check.due("cell 35", new NumberPlace().possible(35, 1), true);
        for (int cell : new int[] {-1, 36, 37, -36, Integer.MIN_VALUE, Integer.MAX_VALUE}) {
            Refused.index(check, "cell " + cell, x -> x.possible(cell, 1) ? 1 : 0);
        }
    }

    @Sentence({"- `digit`: 1 to 6", "Throws `IllegalArgumentException` if digit is out of range"})
    static void promise24_noDigit(Check check) {
        check.due("digit 1", new NumberPlace().possible(9, 1), true);
        check.due("digit 6", new NumberPlace().possible(9, 6), true);
        for (int digit : new int[] {0, 7, -1, 8, 33, Integer.MIN_VALUE, Integer.MAX_VALUE}) {
            Refused.argument(check, "digit " + digit, x -> x.possible(9, digit) ? 1 : 0);
        }
    }

    @Sentence({"Counts the givens without each of which (each one alone) the puzzle would have more than one solution,"
        + " beginning anew with the givens.", "Returns their number."})
    static void promise25_needed(Check check) {
        check.due("no givens", new NumberPlace().needed(), 0);
        check.due("none of all", Desks.solved().needed(), 0);
        check.due("many solutions anyway", Check.desk("123456", "").needed(), 6);
        NumberPlace made = new NumberPlace();
        check.due("all of few", made.needed(), made.count(1));
        for (int givens = 0; givens <= 24; givens += 4) {
            NumberPlace x = new NumberPlace();
            int left = x.make(77, givens);
            check.due("with " + left + " givens", x.needed(), neededBy(x));
        }
    }

    /** The givens without each of which there are several solutions, by plain backtracking. */
    private static int neededBy(NumberPlace x) {
        int[] given = new int[36];
        for (int cell = 0; cell < 36; cell++) {
            given[cell] = x.cell(cell, 1);
        }
        int needed = 0;
        for (int without = 0; without < 36; without++) {
            NumberPlace y = new NumberPlace();
            for (int cell = 0; cell < 36; cell++) {
                if (cell != without && given[cell] != 0) {
                    y.give(cell, given[cell]);
                }
            }
            needed += given[without] != 0 && new Backtrack(y, 2).found > 1 ? 1 : 0;
        }
        return needed;
    }

    @Sentence("(each one alone)")
    static void promise25_eachAlone(Check check) {
        NumberPlace x = new NumberPlace();
        x.make(3, 36);
        check.due("one alone is not needed", x.needed(), 0);
        check.due("the givens are all there still", x.count(1), 36);
        check.due("and none is placed", x.count(2), 0);
        check.due("two equal ones: without the one or the other", Check.desk("11", "").needed(), 2);
        check.due("three equal ones: none alone", Check.desk("111", "").needed(), 0);
    }

    @Sentence("would have more than one solution,")
    static void promise25_moreThanOne(Check check) {
        Supplier<NumberPlace> one = () -> {
            NumberPlace x = new NumberPlace();
            x.make(8, 0);
            return x;
        };
        NumberPlace x = one.get();
        check.due("all are needed", x.needed(), x.count(1));
        int wrong = 0;
        while (x.cell(wrong, 1) != 0) {
            wrong++;
        }
        int digit = one.get().solved(wrong);
        x.give(wrong, digit);
        check.due("one more given", x.needed(), neededBy(x));
        check.due("no solution with the constraints", Check.desk("1", ";k24:2:9").needed(), 0);
    }

    @Sentence("the puzzle would have more than one solution,")
    static void promise25_withItsConstraints(Check check) {
        for (Object[] puzzle : FEW) {
            String constraints = (String) puzzle[2];
            StringBuilder givens = new StringBuilder(((String) puzzle[1] + Desks.DOTS).substring(0, 36));
            NumberPlace solved = desk(puzzle);
            int more = 0;
            while (Check.desk(givens.toString(), constraints).solutions(2) > 1) {
                int cell = more * 5 % 36;
                givens.setCharAt(cell, (char) ('0' + solved.solved(cell)));
                more++;
            }
            int due = 0;
            int given = 0;
            for (int cell = 0; cell < 36; cell++) {
                char digit = givens.charAt(cell);
                givens.setCharAt(cell, '.');
                if (digit != '.') {
                    given++;
                    due += new Backtrack(Check.desk(givens.toString(), constraints), 2).found > 1 ? 1 : 0;
                }
                givens.setCharAt(cell, digit);
            }
            NumberPlace x = Check.desk(givens.toString(), constraints);
            check.due("givens of " + givens, x.count(1), given);
            check.due("needed of " + givens + constraints, x.needed(), due);
        }
    }

    @Sentence("beginning anew with the givens.")
    static void promise25_beginsAnew(Check check) {
        NumberPlace x = new NumberPlace();
        int left = x.make(1, 0);
        x.strike(0, 1);
        x.deduce(500);
        check.due("not from the present position", x.needed(), left);
        Check.strikeAll(x, 9, 1, 2, 3, 4, 5, 6);
        check.due("nor from a dead one", x.needed(), left);
        NumberPlace y = new NumberPlace();
        y.give(0, 1);
        y.give(0, 2);
        check.due("with the digit that was given last", y.needed(), 1);
        NumberPlace z = Check.desk("123456456123231564564231312645645312", "");
        z.give(0, 2);
        check.due("a wrong given: without it there is one", z.needed(), 0);
        check.due("givens are none that it takes away", z.count(1), 36);
    }
}
