/** The heads "Grid" and "Candidates" of the description. */
final class GridSentences {
    @Sentence("The cells are numbered 0 to 35; cell 6 * r + c is in row r and column c (0 to 5).")
    static void grid_rowsAndColumns(Check check) {
        for (int cell = 0; cell < 36; cell++) {
            NumberPlace x = new NumberPlace();
            x.give(cell, 3);
            x.deduce(1);
            for (int k = 0; k < 6; k++) {
                int inRow = cell / 6 * 6 + k;
                int inColumn = 6 * k + cell % 6;
                check.due("row of " + cell, x.candidates(inRow), inRow == cell ? 8 : 126 - 8);
                check.due("column of " + cell, x.candidates(inColumn), inColumn == cell ? 8 : 126 - 8);
            }
        }
    }

    @Sentence("The cells are numbered 0 to 35")
    static void grid_thirtySixCells(Check check) {
        NumberPlace x = new NumberPlace();
        check.due("cell 0", x.candidates(0), 126);
        check.due("cell 35", x.candidates(35), 126);
        check.due("36 of them", x.count(3), 36 * 6);
        Refused.index(check, "cell -1", y -> y.candidates(-1));
        Refused.index(check, "cell 36", y -> y.candidates(36));
    }

    @Sentence("The boxes have 2 rows and 3 columns; box 2 * (r / 2) + c / 3 (rounded down) contains the cell.")
    static void grid_boxes(Check check) {
        int[][] boxes = {{0, 1, 2, 6, 7, 8}, {3, 4, 5, 9, 10, 11}, {12, 13, 14, 18, 19, 20},
            {15, 16, 17, 21, 22, 23}, {24, 25, 26, 30, 31, 32}, {27, 28, 29, 33, 34, 35}};
        for (int[] box : boxes) {
            for (int cell : box) {
                NumberPlace x = new NumberPlace();
                x.give(cell, 6);
                x.deduce(1);
                int others = 0;
                for (int k = 0; k < 36; k++) {
                    boolean inBox = false;
                    for (int member : box) {
                        inBox = inBox || member == k;
                    }
                    boolean reached = inBox || k / 6 == cell / 6 || k % 6 == cell % 6;
                    check.due("6 in " + cell + " and cell " + k, x.candidates(k), k == cell ? 64 : reached ? 62 : 126);
                    others += reached && k != cell ? 1 : 0;
                }
                check.due("peers of " + cell, x.cell(cell, 2), others);
            }
        }
    }

    @Sentence("The 18 units are the rows (0 to 5), the columns (6 to 11) and the boxes (12 to 17)")
    static void grid_eighteenUnits(Check check) {
        int[] firsts = {0, 6, 12, 18, 24, 30, 0, 1, 2, 3, 4, 5, 0, 3, 12, 15, 24, 27};
        int[] lasts = {5, 11, 17, 23, 29, 35, 30, 31, 32, 33, 34, 35, 8, 11, 20, 23, 32, 35};
        for (int unit = 0; unit < 18; unit++) {
            int[] cells = Geometry.unit(unit);
            check.due("first cell of unit " + unit, cells[0], firsts[unit]);
            check.due("last cell of unit " + unit, cells[5], lasts[unit]);
            for (int alone : cells) {
                NumberPlace x = new NumberPlace();
                for (int cell : cells) {
                    if (cell != alone) {
                        x.strike(cell, 2);
                    }
                }
                check.due("unit " + unit + " has just " + alone, x.hintPlace(), unit);
                x.deduce(1);
                check.due("only place in unit " + unit, x.candidates(alone), 4);
            }
        }
    }

    /** Of two pairs in a unit, the one whose first cell is the lower one is done first. */
    @Sentence("the cells of a unit are taken in ascending order.")
    static void grid_cellsOfAUnitAscend(Check check) {
        for (int unit = 0; unit < 18; unit++) {
            int[] cells = Geometry.unit(unit);
            NumberPlace x = new NumberPlace();
            Check.strikeAll(x, cells[1], 1, 2, 3, 4);
            Check.strikeAll(x, cells[5], 1, 2, 3, 4);
            Check.strikeAll(x, cells[0], 3, 4, 5, 6);
            Check.strikeAll(x, cells[4], 3, 4, 5, 6);
            x.deduce(500);
            int first = 0;
            while (first < x.logged() - 1 && x.step(first, 0) != 7) {
                first++;
            }
            x.undo();
            x.deduce(first);
            check.due("a pair is next, unit " + unit, x.hint(), 7);
            x.deduce(1);
            int both = x.candidates(cells[2]) & x.candidates(cells[3]);
            check.due("the pair of the lowest cell, unit " + unit, both & (2 + 4), 0);
            check.due("not yet the other pair, unit " + unit, both & (32 + 64), 32 + 64);
        }
    }

    @Sentence("Each cell gets a digit, 1 to 6; no digit occurs twice in a unit.")
    static void grid_digitsInAUnitDiffer(Check check) {
        for (int one = 0; one < 36; one++) {
            for (int other = one + 1; other < 36; other++) {
                NumberPlace x = new NumberPlace();
                x.give(one, 4);
                x.give(other, 4);
                boolean alike = Geometry.share(one, other);
                check.due("4 in " + one + " and " + other, x.solutions(1), alike ? 0 : 1);
            }
        }
        NumberPlace x = Check.desk("3....4", ";t:20:21:22");
        for (int unit = 0; unit < 18; unit++) {
            int digits = 0;
            for (int cell : Geometry.unit(unit)) {
                digits |= 1 << x.solved(cell);
            }
            check.due("digits of unit " + unit, digits, 126);
        }
    }

    @Sentence({"Each cell has a set of candidates, initially all digits, as bits: bit d stands for the digit d",
        "(so all are 126)."})
    static void candidates_allAtFirst(Check check) {
        NumberPlace x = new NumberPlace();
        for (int cell = 0; cell < 36; cell++) {
            check.due("candidates of " + cell, x.candidates(cell), 126);
        }
        for (int digit = 1; digit <= 6; digit++) {
            x.strike(10 + digit, digit);
            check.due("without " + digit, x.candidates(10 + digit), 126 - (1 << digit));
            x.give(20 + digit, digit);
            check.due("only " + digit, x.candidates(20 + digit), 1 << digit);
        }
    }

    @Sentence("A cell is placed or not; initially none is.")
    static void candidates_nonePlacedAtFirst(Check check) {
        NumberPlace x = new NumberPlace();
        check.due("none is placed", x.count(2), 0);
        for (int cell = 0; cell < 36; cell++) {
            check.due("digit of " + cell, x.cell(cell, 0), 0);
        }
        x.give(17, 5);
        check.due("one candidate is not placed", x.count(2), 0);
        x.deduce(1);
        check.due("one is placed", x.count(2), 1);
        check.due("and has its digit", x.cell(17, 0), 5);
    }

    @Sentence("The peers of a cell are the other cells of its units and of the cages that contain it.")
    static void candidates_peers(Check check) {
        NumberPlace x = new NumberPlace();
        for (int cell = 0; cell < 36; cell++) {
            check.due("without cages " + cell, x.cell(cell, 2), 12);
        }
        x.addConstraint(0, 0, 10);
        check.due("a cage of its own", x.cell(0, 2), 12);
        x.extend(0, 35);
        x.extend(0, 1);
        x.addConstraint(0, 0, 10);
        x.extend(1, 35);
        x.extend(1, 34);
        x.addConstraint(1, 2, 0);
        x.extend(2, 33);
        x.addConstraint(2, 2, 0);
        x.extend(3, 33);
        check.due("two cages, one cell in both and one in a unit", x.cell(0, 2), 14);
        check.due("its cages' other end", x.cell(35, 2), 14);
        check.due("a cage's middle", x.cell(1, 2), 13);
        check.due("the second cage's", x.cell(34, 2), 13);
        check.due("no peer by an arrow or a thermometer", x.cell(2, 2), 12);
        check.due("nor its end", x.cell(33, 2), 12);
        x.give(0, 6);
        x.deduce(1);
        check.due("a peer in the first cage loses it", x.candidates(35), 126 - 64);
        check.due("a peer in the second one as well", x.candidates(34), 126 - 64);
        check.due("no peer", x.candidates(33), 126);
        check.due("removed from peers", x.step(0, 2), 14);
    }

    @Sentence("The position is dead if a cell has no candidates.")
    static void candidates_dead(Check check) {
        for (int cell = 0; cell < 36; cell++) {
            NumberPlace x = new NumberPlace();
            Check.strikeAll(x, cell, 1, 2, 3, 4, 6);
            check.due("one is left in " + cell, x.count(4), 0);
            x.strike(cell, 5);
            check.due("none is left in " + cell, x.count(4), 1);
            x.undo();
            check.due("one again in " + cell, x.count(4), 0);
            x.give(cell, 2);
            check.due("given what it has not, " + cell, x.count(4), 1);
        }
        NumberPlace twice = Check.desk("11", "");
        check.due("two ones in a row are not dead", twice.count(4), 0);
        twice.deduce(1);
        check.due("until one of them is placed", twice.count(4), 1);
    }

    @Sentence("It is solved if all cells are placed and it is not dead.")
    static void candidates_solved(Check check) {
        NumberPlace x = new NumberPlace();
        check.due("empty", x.count(5), 0);
        x.make(4711, 36);
        check.due("none is placed", x.count(5), 0);
        x.deduce(35);
        check.due("35 are placed", x.count(2), 35);
        check.due("one is not", x.count(5), 0);
        check.due("the last one", x.deduce(500), 1);
        check.due("all are placed", x.count(2), 36);
        check.due("solved", x.count(5), 1);
        for (int cell = 0; cell < 36; cell += 7) {
            x.strike(cell, x.cell(cell, 0));
            check.due("all placed, but dead", x.count(2) * 10 + x.count(5), 360);
            x.undo();
        }
        check.due("solved again", x.count(5), 1);
    }
}
