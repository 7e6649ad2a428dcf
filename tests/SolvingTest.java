import java.util.Random;
import java.util.function.Supplier;

/** Promises 20 to 25: solutions, guesses, and what follows from all solutions. */
public final class SolvingTest {
    private static final Check check = new Check();

    public static void main(String[] args) {
        Watch.begin("SolvingTest");
        emptyGrid();
        bruteForce();
        struckPositions();
        noSolution();
        solvedByDeductions();
        placedPositions();
        guesses();
        superfluous();
        twentySolutions();
        possible();
        needed();
        afterChanges();
        refusals();
        check.end();
    }

    private static void emptyGrid() {
        NumberPlace x = new NumberPlace();
        for (int most = 1; most <= 20; most++) {
            check.due("20: empty grid, " + most, x.solutions(most), most);
        }
        check.due("21: empty grid", x.guesses(), 18);
        check.due("22: empty grid", x.solved(0), 1);
        check.due("22: empty grid", x.solved(1), 2);
        check.due("22: empty grid", x.solved(6), 4);
        check.due("23: empty grid", x.superfluous(), -1);
        check.due("24: empty grid", x.possible(35, 6), true);
        check.due("25: empty grid", x.needed(), 0);
    }

    /** The puzzles of some texts, counted by plain backtracking as well. */
    private static void bruteForce() {
        String[][] puzzles = {
            {"1..4....2..5...1...3....6....2..5..1", ""},
            {"123456456123..........", ""},
            {"123456456123231564564231312645", ""},
            {"12345645612323156456423.", ""},
            {"......456123231564564231", ";k7:0:1;t:2:3"},
            {"123456", ";t:6:13:14;a:20:21:27;k9:30:31:32"},
            {".23...4..1..", ";k12:0:6:12;a:5:4:11;t:18:24:30"},
            {"", ";k14:24:25:30:31;k14:26:27:32:33;k13:28:29:34:35;t:0:1:2:3:4:5;t:6:12:18"},
            {"", ";t:0:1:2:3:4:5;t:9:10:11:6:7:8;t:13:14"},
            {"123456.........................1", ";a:6:12;a:7:13;a:8:14"},
            {"1.................................1.", ";k9:1:6:7;k9:5:4:11"},
            {"......4.....", ";t:0:1:2:3:4:5;t:12:13;k3:18:24;k11:29:35"},
        };
        for (String[] puzzle : puzzles) {
            asPlain(Check.desk(puzzle[0], puzzle[1]), puzzle[0], puzzle[1]);
            for (int steps : new int[] {0, 3, 500}) {
                compare(() -> {
                    NumberPlace x = Check.desk(puzzle[0], puzzle[1]);
                    x.deduce(steps);
                    return x;
                }, puzzle[0] + puzzle[1] + " behind " + steps + " deductions");
            }
        }
    }

    /** The first solution in the document's order, and the guesses until it. */
    private static void asPlain(NumberPlace x, String givens, String constraints) {
        PlainDesk plain = new PlainDesk();
        String text = givens + "....................................".substring(givens.length()) + constraints;
        for (int k = 0; k < text.length(); k++) {
            plain.append(text.charAt(k));
        }
        plain.parse();
        int due = plain.guesses();
        if (due != PlainDesk.TOO_DEAR) {
            check.due("21: as the plain desk, " + text, x.guesses(), due);
            for (int c = 0; c < 36; c++) {
                check.due("22: as the plain desk, " + text, x.solved(c), plain.solved(c));
            }
        }
    }

    /** Each desk is asked only a part: more than 512 calls are not promised. */
    private static void compare(Supplier<NumberPlace> desk, String name) {
        Backtrack plain = new Backtrack(desk.get(), 21);
        NumberPlace x = desk.get();
        long before = x.digest();
        check.due("20: 20 of " + name, x.solutions(20), Math.min(20, plain.found));
        check.due("20: 1 of " + name, x.solutions(1), Math.min(1, plain.found));
        check.due("20: 2 of " + name, x.solutions(2), Math.min(2, plain.found));
        int unseen = 0;
        for (int c = 0; c < 36; c++) {
            unseen += Integer.bitCount(x.candidates(c) & ~plain.seen[c]);
        }
        check.due("23: " + name, x.superfluous(), plain.found > 20 ? -1 : unseen);
        if (plain.found <= 20) {
            for (int c = 0; c < 36; c++) {
                for (int d = 1; d <= 6; d++) {
                    check.due("24: " + name, x.possible(c, d), (plain.seen[c] >> d & 1) != 0);
                }
            }
        }
        check.due("20: nothing changes, " + name, x.digest(), before);
        firstSolution(desk.get(), plain, name);
    }

    /** The digits of solved() must be a solution, the only one if there is one only. */
    private static void firstSolution(NumberPlace x, Backtrack plain, String name) {
        NumberPlace y = new NumberPlace();
        for (int i = 0; i < x.count(0); i++) {
            y.addConstraint(x.constraint(i, 0), x.cellOf(i, 0), x.constraint(i, 1));
            for (int k = 1; k < x.constraint(i, 2); k++) {
                y.extend(i, x.cellOf(i, k));
            }
        }
        for (int c = 0; c < 36; c++) {
            int digit = x.solved(c);
            check.due("22: a digit, " + name, digit > 0, plain.found > 0);
            if (digit > 0) {
                check.due("22: a candidate, " + name, x.candidates(c) >> digit & 1, 1);
                y.give(c, digit);
            }
        }
        if (plain.found > 0) {
            check.due("22: a solution, " + name, new Backtrack(y, 2).found, 1);
        }
        check.due("21: none or some, " + name, x.guesses() >= 0, plain.found > 0);
    }

    /** Positions from which many candidates were struck, so that few solutions or none are left. */
    private static void struckPositions() {
        Random random = new Random(11);
        for (int n = 0; n < 400; n++) {
            NumberPlace x = new NumberPlace();
            int struck = 60 + random.nextInt(70);
            for (int k = 0; k < struck; k++) {
                int cell = random.nextInt(36);
                int digit = random.nextInt(6) + 1;
                boolean inGrid = (3 * (cell / 6 % 2) + cell / 12 + cell % 6) % 6 + 1 == digit;
                if (!inGrid || n % 3 == 0 && k == 5) {
                    x.strike(cell, digit);
                }
            }
            Backtrack plain = new Backtrack(x, 21);
            check.due("20: struck position " + n, x.solutions(20), Math.min(20, plain.found));
            int unseen = 0;
            for (int c = 0; c < 36; c++) {
                unseen += Integer.bitCount(x.candidates(c) & ~plain.seen[c]);
            }
            check.due("23: struck position " + n, x.superfluous(), plain.found > 20 ? -1 : unseen);
        }
    }

    private static void noSolution() {
        String[] constraints = {";a:34:35", ";k7:0:1;k13:2:3:4:5", ";k14:0:1:2:3;k14:4:5:6:7;k13:8:9:10:11",
            ";k24:0:1:2", ";t:0:7:14:21:28:35;t:5:10:15:20:25:30", ";t:0:35;t:35:0"};
        for (String text : constraints) {
            NumberPlace x = Check.desk("", text);
            check.due("20: none, " + text, x.solutions(20), 0);
            check.due("21: none, " + text, x.guesses(), -1);
            check.due("22: none, " + text, x.solved(17), 0);
            check.due("23: all are superfluous, " + text, x.superfluous(), 216);
            check.due("24: none, " + text, x.possible(10, 1), false);
        }
        NumberPlace fish = new NumberPlace();
        for (int row = 0; row < 6; row += 2) {
            for (int column : new int[] {1, 2, 4, 5}) {
                fish.strike(6 * row + column, 6);
            }
        }
        check.due("20: three sixes in two columns", fish.solutions(20), 0);
        check.due("21: three sixes in two columns", fish.guesses(), -1);
        NumberPlace twice = Check.desk("11", "");
        check.due("20: two ones in a row", twice.solutions(20), 0);
        check.due("23: two ones in a row", twice.superfluous(), 2 + 34 * 6);
    }

    private static void solvedByDeductions() {
        NumberPlace x = new NumberPlace();
        x.make(1, 0);
        check.due("20: made", x.solutions(2), 1);
        check.due("21: no guess", x.guesses(), 0);
        int[] digits = new int[36];
        for (int c = 0; c < 36; c++) {
            digits[c] = x.solved(c);
        }
        check.due("22: not placed by it", x.count(2), 0);
        x.deduce(500);
        for (int c = 0; c < 36; c++) {
            check.due("22: digit " + c, digits[c], x.cell(c, 0));
            check.due("22: when solved " + c, x.solved(c), x.cell(c, 0));
        }
        check.due("20: solved already", x.solutions(20), 1);
        check.due("21: solved already", x.guesses(), 0);
        check.due("23: solved already", x.superfluous(), 0);
    }

    /** A constraint that comes when its cells are placed still rules solutions out. */
    private static void placedPositions() {
        NumberPlace x = new NumberPlace();
        x.make(3, 36);
        x.deduce(500);
        int sum = x.cell(0, 0) + x.cell(20, 0);
        boolean different = x.cell(0, 0) != x.cell(20, 0);
        x.addConstraint(0, 0, sum);
        x.extend(0, 20);
        check.due("20: a cage of placed cells", x.solutions(20), different ? 1 : 0);
        x.addConstraint(2, 0, 0);
        x.extend(1, 20);
        x.addConstraint(2, 20, 0);
        x.extend(2, 0);
        check.due("11: solved all the same", x.count(5), 1);
        check.due("20: two thermometers against one another", x.solutions(20), 0);
        check.due("21: none", x.guesses(), -1);
    }

    private static void guesses() {
        NumberPlace x = Check.desk("1..4....2..5...1...3....6....2..5..1", "");
        check.due("21: one guess", x.guesses(), 1);
        x.deduce(500);
        check.due("21: deductions are no guesses", x.guesses(), 1);
        NumberPlace y = Check.desk("", ";k15:34:25:33:32;t:24:19;t:35:30");
        check.due("21: many wrong guesses are counted", y.guesses() > 1000, true);
        PlainDesk plain = new PlainDesk();
        NumberPlace z = Check.desk("1.....2", ";t:20:14:15");
        plain.give(0, 1);
        plain.give(6, 2);
        plain.addConstraint(2, 20, 0);
        plain.extend(0, 14);
        plain.extend(0, 15);
        check.due("21: as the plain desk", z.guesses(), plain.guesses());
    }

    private static void superfluous() {
        NumberPlace x = new NumberPlace();
        x.make(2, 20);
        check.due("23: one solution", x.superfluous(), x.count(3) - 36);
        NumberPlace y = Check.desk("123456456123231564564231", "");
        int all = new Backtrack(y, 1000).found;
        check.due("23: few solutions", all > 1 && all <= 20, true);
        check.due("23: asked behind one solution", y.solutions(1), 1);
        check.due("23: sees all of them", y.superfluous() >= 0, true);
        check.due("20: and counts them", y.solutions(20), all);
    }

    private static void twentySolutions() {
        NumberPlace x = Check.desk(".....6.5..23...56.5...3..4.6.....3.5", "");
        check.due("20: twenty", new Backtrack(x, 50).found, 20);
        check.due("20: twenty", x.solutions(20), 20);
        check.due("23: twenty", x.superfluous(), 89);
        NumberPlace y = Check.desk("12.4........2..5..5.1.3....61..1....", "");
        check.due("20: twenty-one", new Backtrack(y, 50).found, 21);
        check.due("20: twenty of them", y.solutions(20), 20);
        check.due("23: twenty-one", y.superfluous(), -1);
    }

    private static void possible() {
        NumberPlace x = Check.desk("123456", "");
        check.due("24: given", x.possible(0, 1), true);
        check.due("24: no candidate", x.possible(0, 2), false);
        check.due("24: a peer has it", x.possible(6, 1), false);
        check.due("24: right", x.possible(6, 4), true);
        x.strike(6, 4);
        check.due("24: struck", x.possible(6, 4), false);
        NumberPlace y = Check.desk("", ";a:0:1:2");
        check.due("24: no sum", y.possible(0, 2), false);
        check.due("24: a sum", y.possible(0, 3), true);
    }

    private static void needed() {
        NumberPlace x = new NumberPlace();
        int left = x.make(1, 0);
        check.due("25: all are needed", x.needed(), left);
        x.strike(0, 1);
        x.deduce(500);
        check.due("25: anew", x.needed(), left);
        x.make(3, 36);
        check.due("25: none is needed", x.needed(), 0);
        NumberPlace y = Check.desk("123456", "");
        check.due("25: more than one solution anyway", y.needed(), 6);
        NumberPlace z = Check.desk("11", "");
        check.due("25: a wrong given", z.needed(), 2);
        NumberPlace w = Check.desk("11", ";a:34:35");
        check.due("25: the constraints stay", w.needed(), 0);
        NumberPlace v = new NumberPlace();
        v.give(0, 1);
        v.give(0, 2);
        check.due("25: begins with the given", v.needed(), 1);
    }

    /** No answer is kept that a change has made old. */
    private static void afterChanges() {
        NumberPlace x = Check.desk("", "");
        check.due("20: before", x.solutions(20), 20);
        check.due("21: before", x.guesses(), 18);
        x.addConstraint(1, 34, 0);
        check.due("20: one cell", x.solutions(20), 20);
        x.extend(0, 35);
        check.due("20: extend", x.solutions(20), 0);
        x.undo();
        check.due("20: undo", x.solutions(20), 20);
        check.due("22: undo", x.solved(0), 1);
        x.strike(0, 1);
        check.due("22: strike", x.solved(0), 2);
        x.give(0, 5);
        check.due("22: give", x.solved(0), 5);
        x.give(0, 6);
        check.due("22: give nothing", x.solved(0), 0);
        x.restart();
        check.due("22: restart", x.solved(0), 6);
        check.due("24: possible in between", x.possible(0, 1), false);
        check.due("25: needed in between", x.needed(), 1);
        check.due("22: still", x.solved(0), 6);
        x.make(1, 36);
        check.due("20: make", x.solutions(20), 1);
        check.due("23: make", x.superfluous(), 0);
        x.make(5, 0);
        check.due("23: nothing is left of the solution before", x.superfluous(), x.count(3) - 36);
        x.begin();
        check.due("20: begin", x.solutions(20), 20);
    }

    private static void refusals() {
        NumberPlace x = Check.desk("1", "");
        check.argument(x, "20: most 0", () -> x.solutions(0));
        check.argument(x, "20: most 21", () -> x.solutions(21));
        check.argument(x, "20: most -1", () -> x.solutions(-1));
        check.index(x, "22: cell 36", () -> x.solved(36));
        check.index(x, "22: cell -1", () -> x.solved(-1));
        check.index(x, "24: cell 36", () -> x.possible(36, 0) ? 1 : 0);
        check.index(x, "24: cell -1", () -> x.possible(-1, 1) ? 1 : 0);
        check.argument(x, "24: digit 0", () -> x.possible(0, 0) ? 1 : 0);
        check.argument(x, "24: digit 7", () -> x.possible(35, 7) ? 1 : 0);
    }
}
