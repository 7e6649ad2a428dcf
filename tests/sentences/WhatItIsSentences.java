/** The document's beginning, "What it is". */
final class WhatItIsSentences {
    private static final int CALLS = 512;
    private static final String PUZZLE =
            "....................3.......364.....;k13:9:14:13:8;a:19:20:14;t:15:16:11:10";

    @Sentence("A desk for number place puzzles on a grid of 6 by 6 cells with cages, arrows and thermometers:")
    static void whatItIs_puzzles(Check check) {
        NumberPlace x = desk();
        for (int unit = 0; unit < 18; unit++) {
            int digits = 0;
            for (int cell : Geometry.unit(unit)) {
                digits |= 1 << x.solved(cell);
            }
            check.due("digits of unit " + unit, digits, 126);
        }
        check.due("the cage", x.solved(9) + x.solved(14) + x.solved(13) + x.solved(8), 13);
        check.due("the arrow", x.solved(20) + x.solved(14), x.solved(19));
        check.due("the thermometer", x.solved(15) < x.solved(16) && x.solved(16) < x.solved(11)
                && x.solved(11) < x.solved(10), true);
    }

    @Sentence("candidates, named deductions that are done one by one and logged,")
    static void whatItIs_deductions(Check check) {
        NumberPlace x = desk();
        NumberPlace all = desk();
        check.due("candidates", x.count(3), 32 * 6 + 4);
        check.due("deductions", all.deduce(500), 15);
        int left = x.count(3);
        for (int k = 0; k < 15; k++) {
            int kind = x.hint();
            int place = x.hintPlace();
            check.due("one by one", x.deduce(1), 1);
            check.due("logged", x.logged(), k + 1);
            check.due("kind", x.step(k, 0), kind);
            check.due("place", x.step(k, 1), place);
            left -= x.step(k, 2);
            check.due("candidates behind " + k, x.count(3), left);
            for (int what = 0; what <= 2; what++) {
                check.due("alike " + k, x.step(k, what), all.step(k, what));
            }
        }
        check.due("no more", x.hint(), 0);
    }

    @Sentence("solving with counted guesses, counting of solutions, hints, checks,")
    static void whatItIs_solving(Check check) {
        NumberPlace x = desk();
        check.due("a guess", x.guesses(), 1);
        check.due("a solution", x.solutions(20), 1);
        check.due("a hint", x.hint(), 1);
        Backtrack back = new Backtrack(x, 2);
        check.due("one solution, plainly", back.found, 1);
        for (int cell = 0; cell < 36; cell++) {
            check.due("digit of " + cell, 1 << x.solved(cell), back.seen[cell]);
            check.due("right in " + cell, x.possible(cell, x.solved(cell)), true);
            check.due("wrong in " + cell, x.possible(cell, x.solved(cell) % 6 + 1), false);
        }
        check.due("superfluous", x.superfluous(), x.count(3) - 36);
        for (int cell = 0; cell < 36; cell++) {
            x.give(cell, x.solved(cell));
        }
        x.deduce(36);
        check.due("solved", x.count(5), 1);
    }

    @Sentence("and puzzles that are made with as few givens as possible;")
    static void whatItIs_fewGivens(Check check) {
        for (int seed = 500; seed < 530; seed++) {
            NumberPlace x = new NumberPlace();
            int givens = x.make(seed, 0);
            check.due("one solution of " + seed, x.solutions(2), 1);
            check.due("all givens of " + seed + " are needed", x.needed(), givens);
        }
    }

    @Sentence("puzzles are read from a text.")
    static void whatItIs_text(Check check) {
        NumberPlace x = desk();
        check.due("givens", x.count(1), 4);
        check.due("constraints", x.count(0), 3);
        check.due("the text", x.clearText(), PUZZLE.length());
    }

    /** Every call up to the last one must answer as a plain desk does. */
    @Sentence("An object is used for at most 512 calls after it has been made; what later calls answer is free.")
    static void whatItIs_512Calls(Check check) {
        String[][] lives = {
            {"give", "candidates", "give", "undo"},
            {"strike", "cell", "strike", "hint", "undo", "strike"},
            {"addConstraint", "extend", "extend", "begin", "count"},
            {"append"},
            {"append", "append", "append", "clearText", "parse"},
            {"give", "deduce", "deduce", "logged", "step", "undo", "strike", "restart"},
            {"strike", "solutions", "possible", "solved", "guesses", "superfluous", "strike", "undo"},
            {"give", "needs", "hintPlace", "needed", "addConstraint", "extend", "constraint", "cellOf", "digest"},
            {"undo", "undo", "give", "give", "give", "give", "give", "undo", "undo", "undo"},
            {"digest"}};
        for (String[] life : lives) {
            live(check, life);
        }
        NumberPlace x = new NumberPlace();
        int due = new NumberPlace().make(999999, 0);
        for (int k = 1; k < CALLS; k++) {
            x.make(k, 33);
        }
        check.due("the last call makes a puzzle", x.make(999999, 0), due);
    }

    private static void live(Check check, String[] life) {
        NumberPlace x = new NumberPlace();
        PlainDesk plain = new PlainDesk();
        for (int k = 0; k < CALLS; k++) {
            String name = k == CALLS - 1 ? "digest" : life[k % life.length];
            int a = first(name, k);
            int b = name.equals("addConstraint") ? 7 * k % 36 : name.equals("extend") ? 5 * k % 36 : 1 + k / 3 % 6;
            int c = a == 0 ? 3 + k % 20 : 0;
            check.due("call " + k + ": " + name, Script.program(x, name, a, b, c), Script.plain(plain, name, a, b, c));
        }
    }

    private static int first(String name, int k) {
        switch (name) {
            case "give":
            case "strike":
            case "possible":
            case "cell":
            case "candidates":
            case "solved":
                return 11 * k % 36;
            case "append":
                return '.';
            case "solutions":
                return 1 + k % 20;
            default:
                return k % 4;
        }
    }

    private static NumberPlace desk() {
        NumberPlace x = new NumberPlace();
        Check.write(x, PUZZLE);
        x.parse();
        return x;
    }
}
