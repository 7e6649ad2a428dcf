import java.util.Random;

/** The head "Deductions" again: of any two that are possible, the first one in order is done. */
final class OrderSentences {
    /** Places in a unit for two cells, or four, that are in no other unit together, as far as that can be. */
    private static final int[][] APART = {{0, 5}, {1, 5}, {0, 4}, {1, 4}, {2, 3}};

    private static void due(Check check, NumberPlace x, String what, int kind, int place) {
        check.due(what + ": kind", x.hint(), kind);
        check.due(what + ": place", x.hintPlace(), place);
    }

    /** Leaves a cell with two digits only. */
    private static void keepTwo(NumberPlace x, int cell, int one, int other) {
        for (int digit = 1; digit <= 6; digit++) {
            if (digit != one && digit != other) {
                x.strike(cell, digit);
            }
        }
    }

    private static boolean isBox(int unit) {
        return unit >= 12;
    }

    @Sentence("1 single: the lowest cell that is not placed and has one candidate is placed,")
    static void deductions_singleOfAnyTwoCells(Check check) {
        for (int low = 0; low < 36; low++) {
            for (int high = low + 1; high < 36; high++) {
                NumberPlace x = new NumberPlace();
                x.give(high, 2);
                x.give(low, 5);
                due(check, x, low + " and " + high, 1, low);
                x.deduce(1);
                check.due(low + " is placed", x.cell(low, 0) * 10 + x.cell(high, 0), 50);
                due(check, x, "then " + high, 1, high);
            }
        }
    }

    /** A peer may have been placed with the digit before a cage made it one. */
    @Sentence("its digit is removed from the candidates of its peers.")
    static void deductions_singleRemovesFromPlacedPeers(Check check) {
        NumberPlace x = new NumberPlace();
        x.give(0, 4);
        x.deduce(1);
        x.give(8, 3);
        x.give(20, 4);
        x.addConstraint(0, 0, 8);
        x.extend(0, 20);
        due(check, x, "a cell between them", 1, 8);
        x.deduce(1);
        due(check, x, "a peer of a placed cell", 1, 20);
        check.due("done", x.deduce(1), 1);
        check.due("of 13 peers 2, 8, 12 and 18 had lost it", x.step(1, 2), 9);
        check.due("the placed cell loses it", x.candidates(0), 0);
        check.due("placed without a candidate", x.count(2) * 10 + x.cell(0, 0), 30);
        check.due("dead", x.count(4), 1);
        check.due("no more", x.hint(), 0);
    }

    @Sentence("2 only place: for the lowest unit,")
    static void deductions_onlyPlaceOfAnyTwoUnits(Check check) {
        for (int low = 0; low < 18; low++) {
            for (int high = low + 1; high < 18; high++) {
                int first = Geometry.unit(low)[5];
                int second = Geometry.unit(high)[0] == first ? Geometry.unit(high)[1] : Geometry.unit(high)[0];
                NumberPlace x = new NumberPlace();
                onlyPlace(x, high, second, 1);
                onlyPlace(x, low, first, 6);
                due(check, x, "units " + low + " and " + high, 2, low);
                x.deduce(1);
                check.due("the cell of unit " + low, x.candidates(first), 64);
            }
        }
    }

    @Sentence("and in it for the lowest digit,")
    static void deductions_onlyPlaceOfAnyTwoDigits(Check check) {
        for (int unit = 0; unit < 18; unit++) {
            for (int low = 1; low <= 6; low++) {
                for (int high = low + 1; high <= 6; high++) {
                    NumberPlace x = new NumberPlace();
                    onlyPlace(x, unit, Geometry.unit(unit)[1], high);
                    onlyPlace(x, unit, Geometry.unit(unit)[4], low);
                    due(check, x, "unit " + unit, 2, unit);
                    x.deduce(1);
                    check.due("digit " + low + " in unit " + unit, x.candidates(Geometry.unit(unit)[4]), 1 << low);
                }
            }
        }
    }

    private static void onlyPlace(NumberPlace x, int unit, int cell, int digit) {
        for (int other : Geometry.unit(unit)) {
            if (other != cell) {
                x.strike(other, digit);
            }
        }
    }

    @Sentence({"for the lowest constraint that is a thermometer and for which something is removed:",
        "4 cage: for the lowest cage for which something is removed:",
        "5 arrow: for the lowest arrow for which something is removed:"})
    static void deductions_anyTwoConstraints(Check check) {
        int[] deduction = {4, 5, 3};
        for (int kind = 0; kind <= 2; kind++) {
            for (int low = 0; low < 8; low++) {
                for (int high = low + 1; high < 8; high++) {
                    NumberPlace x = new NumberPlace();
                    for (int index = 0; index < 8; index++) {
                        x.addConstraint(kind, 4 * index + 2, kind == 0 ? 6 : 0);
                    }
                    for (int index : new int[] {high, low}) {
                        x.extend(index, 4 * index + 1);
                        x.extend(index, 4 * index);
                    }
                    due(check, x, low + " and " + high, deduction[kind], low);
                    x.deduce(1);
                    due(check, x, "then " + high, deduction[kind], high);
                }
            }
        }
    }

    @Sentence("6 locked: for the lowest box,")
    static void deductions_lockedInAnyTwoBoxes(Check check) {
        for (int low = 0; low < 6; low++) {
            for (int high = low + 1; high < 6; high++) {
                NumberPlace x = new NumberPlace();
                DeductionSentences.lock(x, 12 + high, 6 + high % 2 * 3, 1);
                DeductionSentences.lock(x, 12 + low, 8 + low % 2 * 3, 6);
                due(check, x, "boxes " + low + " and " + high, 6, low);
                x.deduce(1);
                due(check, x, "then " + high, 6, high);
            }
        }
    }

    /** The lines of a box have different digits: which digit goes from its line shows what was done. */
    @Sentence("in it for the lowest line that it meets (rows 0 to 5, then columns as 6 to 11),")
    static void deductions_lockedInAnyTwoLines(Check check) {
        for (int box = 0; box < 6; box++) {
            int row = box / 2 * 2;
            int column = 6 + box % 2 * 3;
            int[] lines = {row, row + 1, column, column + 1, column + 2};
            for (int low = 0; low < 5; low++) {
                for (int high = low + 1; high < 5; high++) {
                    // The rows of a box at the right are told at the box on its left.
                    if (box % 2 == 0 || low >= 2) {
                        NumberPlace x = new NumberPlace();
                        DeductionSentences.lock(x, 12 + box, lines[high], 1);
                        DeductionSentences.lock(x, 12 + box, lines[low], 6);
                        due(check, x, "box " + box, 6, box);
                        x.deduce(1);
                        int inBoth = lines[low] < 6 ? 3 : 2;
                        check.due("line " + lines[low] + " of box " + box, left(x, lines[low], 6), inBoth);
                        check.due("line " + lines[high] + " has its digit still", left(x, lines[high], 1), 6);
                    }
                }
            }
        }
    }

    /** How many cells of a unit have a digit as a candidate. */
    private static int left(NumberPlace x, int unit, int digit) {
        int result = 0;
        for (int cell : Geometry.unit(unit)) {
            result += x.candidates(cell) >> digit & 1;
        }
        return result;
    }

    /** A box at the right has a row of its own if the box on its left has no place for the digit. */
    @Sentence("in it for the lowest line that it meets")
    static void deductions_lockedInARowAtTheRight(Check check) {
        for (int box = 1; box < 6; box += 2) {
            int row = box / 2 * 2;
            for (int column = 9; column < 12; column++) {
                NumberPlace x = new NumberPlace();
                DeductionSentences.lock(x, 12 + box, column, 1);
                for (int cell : Geometry.unit(12 + box - 1)) {
                    x.strike(cell, 6);
                }
                due(check, x, "box " + box, 6, box);
                x.deduce(1);
                check.due("row " + row + " keeps 6", left(x, row, 6), 3);
                check.due("the box has it nowhere else", left(x, 12 + box, 6), 3);
                check.due("column " + column + " has its digit still", left(x, column, 1), 6);
            }
        }
    }

    @Sentence("and for this for the lowest digit for which one of these is possible:")
    static void deductions_lockedWithAnyTwoDigits(Check check) {
        for (int box = 0; box < 6; box++) {
            for (int column = 6 + box % 2 * 3; column < 9 + box % 2 * 3; column++) {
                for (int low = 1; low <= 6; low++) {
                    for (int high = low + 1; high <= 6; high++) {
                        NumberPlace x = new NumberPlace();
                        DeductionSentences.lock(x, 12 + box, column, high);
                        DeductionSentences.lock(x, column, 12 + box, low);
                        due(check, x, "box " + box, 6, box);
                        x.deduce(1);
                        check.due("digit " + low + " of column " + column, left(x, 12 + box, low), 2);
                        check.due("digit " + high + " of column " + column, left(x, column, high), 6);
                    }
                }
            }
        }
    }

    @Sentence("7 pair: for the lowest unit,")
    static void deductions_pairInAnyTwoUnits(Check check) {
        for (int low = 0; low < 18; low++) {
            for (int high = low + 1; high < 18; high++) {
                int looked = 0;
                for (int[] first : APART) {
                    for (int[] second : APART) {
                        looked += pairs(check, low, high, first, second) ? 1 : 0;
                    }
                }
                check.due("units " + low + " and " + high + " are looked at", looked > 0, true);
            }
        }
    }

    /** False if the cells are in each other's way, or in a lower unit together, or lock a digit. */
    private static boolean pairs(Check check, int low, int high, int[] first, int[] second) {
        int[] lowCells = {Geometry.unit(low)[first[0]], Geometry.unit(low)[first[1]]};
        int[] highCells = {Geometry.unit(high)[second[0]], Geometry.unit(high)[second[1]]};
        for (int cell : lowCells) {
            if (cell == highCells[0] || cell == highCells[1]) {
                return false;
            }
        }
        if (isBox(low) && sameLine(lowCells) || isBox(high) && sameLine(highCells)) {
            return false;
        }
        NumberPlace x = new NumberPlace();
        keepTwo(x, highCells[0], 1, 2);
        keepTwo(x, highCells[1], 1, 2);
        keepTwo(x, lowCells[0], 5, 6);
        keepTwo(x, lowCells[1], 5, 6);
        if (x.hint() == 6) {
            return false;
        }
        due(check, x, "units " + low + " and " + high, 7, low);
        return true;
    }

    private static boolean sameLine(int[] cells) {
        return cells[0] / 6 == cells[1] / 6 || cells[0] % 6 == cells[1] % 6;
    }

    /** Four cells of a unit make two pairs: the one with the first cell is done, wherever its second is. */
    @Sentence("in it for the first cell and then the second cell behind it, that have the same two candidates:")
    static void deductions_pairOfAnyTwoInAUnit(Check check) {
        int[][] places = {{0, 5, 1, 4}, {0, 4, 1, 5}, {0, 1, 4, 5}, {0, 5, 1, 3}, {1, 3, 2, 5}, {0, 2, 4, 5},
            {1, 5, 2, 3}, {0, 4, 2, 3}};
        for (int unit = 0; unit < 18; unit++) {
            int[] cells = Geometry.unit(unit);
            int looked = 0;
            for (int[] four : places) {
                int[] first = {cells[four[0]], cells[four[1]]};
                int[] other = {cells[four[2]], cells[four[3]]};
                if (isBox(unit) && (sameLine(first) || sameLine(other))) {
                    continue;
                }
                NumberPlace x = new NumberPlace();
                keepTwo(x, other[0], 1, 2);
                keepTwo(x, other[1], 1, 2);
                keepTwo(x, first[0], 5, 6);
                keepTwo(x, first[1], 5, 6);
                if (x.hint() == 6) {
                    continue;
                }
                looked++;
                due(check, x, "unit " + unit, 7, unit);
                x.deduce(1);
                check.due("5 of unit " + unit, left(x, unit, 5) * 10 + left(x, unit, 6), 22);
                check.due("1 of unit " + unit, left(x, unit, 1) * 10 + left(x, unit, 2), 44);
            }
            check.due("unit " + unit + " is looked at", looked > 0, true);
        }
    }

    /**
     * Grids whose cells have few candidates, compared with a plain desk: digits go in twos, so that most
     * cells of a unit are pairs, and a few cells have one digit more, or one less.
     */
    @Sentence({"The kinds are tried in this order; of a kind the first one is done that is possible:",
        "these are removed from the other cells of the unit, if that removes something."})
    static void deductions_amongFewCandidates(Check check) {
        Random random = new Random(36);
        int[] done = new int[8];
        for (int run = 0; run < 200; run++) {
            NumberPlace x = new NumberPlace();
            PlainDesk plain = new PlainDesk();
            NumberPlace full = new NumberPlace();
            full.make(run, 36);
            for (int cell = 0; cell < 36; cell++) {
                int digit = full.cell(cell, 1);
                int kept = 1 << digit | 1 << (digit % 2 == 0 ? digit - 1 : digit + 1);
                kept |= random.nextInt(1 + run % 40) == 0 ? 2 << random.nextInt(6) : 0;
                kept &= random.nextInt(60) == 0 ? 1 << digit : 126;
                strikeBut(x, plain, cell, kept);
            }
            while (plain.hint() != 0) {
                due(check, x, "run " + run, plain.hint(), plain.hintPlace());
                done[plain.hint()]++;
                x.deduce(1);
                plain.deduce(1);
                check.due("candidates in run " + run, x.count(3), plain.count(3));
            }
            check.due("no more in run " + run, x.hint(), 0);
        }
        check.due("kinds done", done[1] > 500 && done[2] > 50 && done[6] > 100 && done[7] > 100, true);
    }

    private static void strikeBut(NumberPlace x, PlainDesk plain, int cell, int kept) {
        for (int digit = 1; digit <= 6; digit++) {
            if ((kept >> digit & 1) == 0) {
                x.strike(cell, digit);
                plain.strike(cell, digit);
            }
        }
    }

    /** What was looked at in vain must be looked at again when a cell of it was changed, or changed back. */
    @Sentence({"3 thermometer: for the lowest constraint that is a thermometer and for which something is removed:",
        "4 cage: for the lowest cage for which something is removed:",
        "5 arrow: for the lowest arrow for which something is removed:"})
    static void deductions_constraintsAfterAChange(Check check) {
        for (int kind = 0; kind <= 2; kind++) {
            for (int cell : new int[] {0, 9, 20}) {
                for (int digit = 1; digit <= 6; digit++) {
                    for (String change : new String[] {"give", "strike"}) {
                        changed(check, kind, change, cell, digit);
                    }
                }
            }
        }
    }

    /** A constraint of cells that share no unit, all its deductions done, then a change and an undo. */
    private static void changed(Check check, int kind, String change, int cell, int digit) {
        NumberPlace x = new NumberPlace();
        PlainDesk plain = new PlainDesk();
        Object[][] calls = {{"addConstraint", kind, 0, kind == 0 ? 12 : 0}, {"extend", 0, 9, 0}, {"extend", 0, 20, 0},
            {"deduce", 500, 0, 0}, {change, cell, digit, 0}, {"deduce", 1, 0, 0}, {"hint", 0, 0, 0},
            {"deduce", 500, 0, 0}, {"digest", 0, 0, 0}, {"undo", 0, 0, 0}, {"deduce", 500, 0, 0},
            {"digest", 0, 0, 0}, {"undo", 0, 0, 0},
            {"undo", 0, 0, 0}, {"undo", 0, 0, 0}, {change, cell, digit, 0}, {"deduce", 500, 0, 0}, {"digest", 0, 0, 0}};
        for (int k = 0; k < calls.length; k++) {
            String name = (String) calls[k][0];
            int a = (int) calls[k][1];
            int b = (int) calls[k][2];
            int c = (int) calls[k][3];
            check.due(change + " " + digit + " in " + cell + ", kind " + kind + ", call " + k + ", " + name,
                    Script.program(x, name, a, b, c), Script.plain(plain, name, a, b, c));
        }
    }

    /** Constraints whose cells are all given, rightly or wrongly, and looked at for the first time. */
    @Sentence({"3 thermometer: for the lowest constraint that is a thermometer and for which something is removed:",
        "4 cage: for the lowest cage for which something is removed:",
        "5 arrow: for the lowest arrow for which something is removed:"})
    static void deductions_constraintsOfGivenCells(Check check) {
        int[] deduction = {4, 5, 3};
        String[] kinds = {";k9:0:9:20", ";a:20:9:0", ";t:0:9:20"};
        for (int low = 1; low <= 6; low++) {
            for (int middle = 1; middle <= 6; middle++) {
                for (int high = 1; high <= 6; high++) {
                    boolean differ = low != middle && low != high && middle != high;
                    boolean[] right = {differ && low + middle + high == 9, low + middle == high,
                        low < middle && middle < high};
                    for (int kind = 0; kind <= 2; kind++) {
                        String text = low + "........" + middle + ".........." + high;
                        NumberPlace x = Check.desk(text, kinds[kind]);
                        check.due("solutions of " + text + kinds[kind], x.solutions(1), right[kind] ? 1 : 0);
                        if (differ) {
                            check.due("three are placed", x.deduce(3), 3);
                            check.due(text + kinds[kind], x.hint(), right[kind] ? 0 : deduction[kind]);
                            x.restart();
                            check.due("once more " + text + kinds[kind], x.deduce(4), right[kind] ? 3 : 4);
                            check.due("dead: " + text + kinds[kind], x.count(4), right[kind] ? 0 : 1);
                        }
                    }
                }
            }
        }
    }

    /** A pair beside cells with one of its digits and one other, and with both and one other. */
    @Sentence({"7 pair: for the lowest unit,", "these are removed from the other cells of the unit"})
    static void deductions_pairBesideOtherTwos(Check check) {
        Random random = new Random(7);
        int pairs = 0;
        for (int unit = 0; unit < 18; unit++) {
            for (int run = 0; run < 60; run++) {
                NumberPlace x = new NumberPlace();
                PlainDesk plain = new PlainDesk();
                for (int cell : Geometry.unit(unit)) {
                    // Few digits to choose from: so there are pairs, and twos that share a digit.
                    int kept = random.nextInt(4) == 0 ? 126 : 0;
                    while (Integer.bitCount(kept) < 2) {
                        kept |= 2 << random.nextInt(2 + run % 5);
                    }
                    strikeBut(x, plain, cell, kept);
                }
                while (plain.hint() != 0) {
                    pairs += plain.hint() == 7 ? 1 : 0;
                    due(check, x, "unit " + unit + ", run " + run, plain.hint(), plain.hintPlace());
                    x.deduce(1);
                    plain.deduce(1);
                    check.due("removed in unit " + unit + ", run " + run, x.count(3), plain.count(3));
                }
                check.due("digest of unit " + unit + ", run " + run, x.digest(), plain.digest());
            }
        }
        check.due("pairs", pairs > 200, true);
        int[] row = Geometry.unit(2);
        NumberPlace x = new NumberPlace();
        keepTwo(x, row[0], 1, 2);
        keepTwo(x, row[1], 1, 3);
        keepTwo(x, row[3], 1, 2);
        keepTwo(x, row[4], 2, 4);
        due(check, x, "a row of twos", 7, 2);
        x.deduce(1);
        check.due("1 and 2 are gone from all others", x.step(0, 2), 1 + 1 + 2 + 2);
        check.due("3 is left", x.candidates(row[1]), 8);
        check.due("4 is left", x.candidates(row[4]), 16);
    }
}
