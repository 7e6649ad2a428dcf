import java.util.Random;

/**
 * Random runs of up to 512 calls on the program and on the plain desk: every answer must be the same.
 * Some runs make any calls; others solve a puzzle, deduction by deduction, whose cells have few candidates.
 */
public final class CompareTest {
    private static int wrong = 0;
    private static int tooDear = 0;
    private static int compared = 0;

    public static void main(String[] args) {
        Watch.begin("CompareTest");
        int first = args.length > 0 ? Integer.parseInt(args[0]) : 1;
        int runs = args.length > 1 ? Integer.parseInt(args[1]) : 200;
        for (int run = first; run < first + runs && wrong < 20; run++) {
            new CompareTest(run).play();
            new CompareTest(run).solve();
        }
        System.out.println(compared + " answers compared, " + tooDear + " too dear for the plain desk, "
                + wrong + " wrong");
        if (wrong != 0) {
            System.exit(1);
        }
    }

    private final int run;
    private final Random random;
    private final NumberPlace program = new NumberPlace();
    private final PlainDesk plain = new PlainDesk();
    private int calls = 0;
    private int dear = 0;

    private CompareTest(int run) {
        this.run = run;
        this.random = new Random(run);
    }

    private void play() {
        int style = run % 4;
        while (calls < 480 && wrong < 20) {
            if (random.nextInt(40) == 0 && style != 3 && calls < 350) {
                write();
            } else if (random.nextInt(6) == 0) {
                draw();
            } else {
                one(style);
            }
        }
        call("digest", 0, 0, 0);
    }

    /** Deductions of a puzzle; most of them have a solution, and constraints that are kept in it. */
    private void solve() {
        int[] digits = fullGrid();
        boolean onlyConstraints = random.nextInt(2) == 0;
        for (int k = onlyConstraints ? 200 : random.nextInt(30); k > 0 && plain.s.constraints.size() < 8; k--) {
            drawRight(digits);
        }
        if (random.nextInt(4) == 0) {
            draw();
        }
        if (random.nextInt(3) == 0 && !onlyConstraints) {
            giveMany(digits);
        }
        // Few solutions with many candidates each: every place of a digit counts.
        int keepOneOf = onlyConstraints ? 1 : 1 + random.nextInt(12);
        for (int cell = 0; cell < 36 && plain.count(1) == 0; cell++) {
            for (int digit = 1; digit <= 6; digit++) {
                if (digit != digits[cell] && random.nextInt(keepOneOf) != 0) {
                    call("strike", cell, digit, 0);
                }
            }
        }
        askSolving();
        while (calls < 480 && wrong < 20 && plain.hint() != 0) {
            call("hint", 0, 0, 0);
            call("hintPlace", 0, 0, 0);
            call("deduce", 1, 0, 0);
            call("step", plain.logged() - 1, 2, 0);
        }
        askSolving();
        call("hint", 0, 0, 0);
        call("digest", 0, 0, 0);
    }

    /** Many of the right digits, a wrong one now and then, and a new beginning with them. */
    private void giveMany(int[] digits) {
        int wrongOneOf = 1 + random.nextInt(60);
        for (int cell = 0; cell < 36; cell++) {
            if (random.nextInt(3) != 0) {
                call("give", cell, random.nextInt(wrongOneOf) == 1 ? 1 + random.nextInt(6) : digits[cell], 0);
            }
        }
        askSolving();
        call("restart", 0, 0, 0);
        call("needed", 0, 0, 0);
    }

    private void askSolving() {
        call("needs", 1 + random.nextInt(7), 0, 0);
        call("solutions", 1 + random.nextInt(20), 0, 0);
        call("guesses", 0, 0, 0);
        call("solved", random.nextInt(36), 0, 0);
        call("superfluous", 0, 0, 0);
        call("possible", random.nextInt(36), 1 + random.nextInt(6), 0);
    }

    private int[] fullGrid() {
        int add = random.nextInt(6);
        int rows = random.nextInt(2);
        int[] digits = new int[36];
        for (int cell = 0; cell < 36; cell++) {
            int row = cell / 6;
            // Rows of a band may be exchanged.
            int told = rows == 0 ? row : row % 2 == 0 ? row + 1 : row - 1;
            digits[cell] = (3 * (told % 2) + told / 2 + cell % 6 + add) % 6 + 1;
        }
        return digits;
    }

    /** A constraint of cells near one another, if the digits of the solution keep it. */
    private void drawRight(int[] digits) {
        int size = 2 + random.nextInt(4);
        int[] cells = new int[size];
        int cell = random.nextInt(36);
        long seen = 0;
        int found = 0;
        int sum = 0;
        boolean ascends = true;
        for (int k = 0; k < size; k++) {
            cells[k] = cell;
            seen |= 1L << cell;
            found |= 1 << digits[cell];
            sum += digits[cell];
            ascends = ascends && (k == 0 || digits[cells[k - 1]] < digits[cell]);
            int row = Math.min(5, Math.max(0, cell / 6 + random.nextInt(3) - 1));
            cell = 6 * row + Math.min(5, Math.max(0, cell % 6 + random.nextInt(3) - 1));
        }
        int kind = ascends ? 2 : size > 4 ? -1 : sum == 2 * digits[cells[0]] ? 1
                : Integer.bitCount(found) == size && sum <= 24 ? 0 : -1;
        if (kind >= 0 && Long.bitCount(seen) == size) {
            int index = plain.s.constraints.size();
            call("addConstraint", kind, cells[0], kind == 0 ? sum : 0);
            for (int k = 1; k < size; k++) {
                call("extend", index, cells[k], 0);
            }
        }
    }

    private int near(int least, int greatest) {
        return random.nextInt(30) == 0 ? (random.nextBoolean() ? least - 1 : greatest + 1)
                : least + random.nextInt(greatest - least + 1);
    }

    private void one(int style) {
        String name = Script.NAMES[random.nextInt(Script.NAMES.length)];
        int roll = random.nextInt(10);
        if (name.equals("begin") && roll > 2 || name.equals("make") && roll > 0
                || name.equals("parse") && roll > 2 || name.equals("needed") && roll > 0
                || name.equals("undo") && roll > 8 || name.equals("clearText") && roll > 2) {
            name = "digest";
        }
        boolean solves = "solutions guesses solved superfluous possible".contains(name);
        if (solves && (dear > 2 || roll > 3)) {
            name = style == 0 ? "deduce" : "strike";
        }
        int cell = near(0, 35);
        int digit = near(1, 6);
        switch (name) {
            case "give":
            case "possible":
                call(name, cell, digit, 0);
                break;
            case "strike":
                for (int k = 0; k < 1 + random.nextInt(4); k++) {
                    call(name, near(0, 35), near(1, 6), 0);
                }
                break;
            case "addConstraint":
                int kind = near(0, 2);
                call(name, kind, cell, random.nextInt(20) == 0 ? near(0, 24) : kind == 0 ? near(3, 24) : 0);
                break;
            case "extend":
                for (int k = 0; k < 3; k++) {
                    call(name, near(0, Math.max(0, plain.s.constraints.size() - 1)), near(0, 35), 0);
                }
                break;
            case "make":
                call(name, random.nextInt(1000000), near(0, 36), 0);
                break;
            case "constraint":
            case "cellOf":
                call(name, near(0, 7), near(0, 3), 0);
                break;
            case "count":
                call(name, near(0, 5), 0, 0);
                break;
            case "cell":
                call(name, cell, near(0, 2), 0);
                break;
            case "deduce":
                call(name, random.nextInt(4) == 0 ? near(0, 500) : near(0, 9), 0, 0);
                break;
            case "step":
                call(name, near(0, Math.max(0, plain.logged() - 1)), near(0, 2), 0);
                break;
            case "needs":
                call(name, near(1, 7), 0, 0);
                break;
            case "solutions":
                call(name, near(1, 20), 0, 0);
                break;
            case "append":
                call(name, near(0, 127), 0, 0);
                break;
            case "undo":
                for (int k = random.nextInt(4); k >= 0; k--) {
                    call(name, 0, 0, 0);
                    call("digest", 0, 0, 0);
                }
                break;
            default:
                call(name, cell, digit, 0);
        }
    }

    /** A few constraints of cells that lie near one another, as in true puzzles. */
    private void draw() {
        int cell = random.nextInt(36);
        int kind = random.nextInt(3);
        int size = 2 + random.nextInt(kind == 2 ? 4 : 3);
        int before = plain.s.constraints.size();
        call("addConstraint", kind, cell, kind == 0 ? size * (size + 1) / 2 + random.nextInt(6) : 0);
        for (int k = 1; k < size && before < 8; k++) {
            int row = Math.min(5, Math.max(0, cell / 6 + random.nextInt(3) - 1));
            int column = Math.min(5, Math.max(0, cell % 6 + random.nextInt(3) - 1));
            cell = 6 * row + column;
            call("extend", before, cell, 0);
        }
    }

    /** A puzzle text with a fault now and then, and its parsing. */
    private void write() {
        call("clearText", 0, 0, 0);
        StringBuilder b = new StringBuilder();
        int givens = random.nextInt(14);
        for (int k = 0; k < 36; k++) {
            int row = k / 6;
            int digit = (3 * (row % 2) + row / 2 + k % 6) % 6 + 1;
            b.append(random.nextInt(36) < givens ? (char) ('0' + digit) : '.');
        }
        int constraints = random.nextInt(6) == 0 ? 9 : random.nextInt(5);
        for (int k = 0; k < constraints; k++) {
            int kind = random.nextInt(3);
            b.append(';').append("kat".charAt(kind));
            if (kind == 0) {
                b.append(3 + random.nextInt(18));
            }
            int cells = 2 + random.nextInt(kind == 2 ? 4 : 3);
            int start = random.nextInt(36);
            for (int c = 0; c < cells; c++) {
                b.append(':').append((start + c * (random.nextInt(8) == 0 ? 5 : 1)) % 36);
            }
        }
        if (random.nextInt(3) == 0) {
            int at = random.nextInt(b.length());
            b.setCharAt(at, ".123456789:;kat0x".charAt(random.nextInt(17)));
        }
        if (random.nextInt(6) == 0) {
            b.setLength(random.nextInt(b.length() + 1));
        }
        for (int k = 0; k < b.length(); k++) {
            call("append", b.charAt(k), 0, 0);
        }
        call("parse", 0, 0, 0);
        call("digest", 0, 0, 0);
    }

    private void call(String name, int a, int b, int c) {
        calls++;
        long due = Script.plain(plain, name, a, b, c);
        if (due == PlainDesk.TOO_DEAR) {
            tooDear++;
            dear++;
            return;
        }
        if (plain.guessCount > 1000) {
            dear++;
            plain.guessCount = 0;
        }
        compared++;
        long got = Script.program(program, name, a, b, c);
        if (got != due) {
            wrong++;
            System.out.println("run " + run + ", call " + calls + ": " + name + "(" + a + ", " + b + ", " + c
                    + ") answered " + got + ", due is " + due);
        }
    }
}
