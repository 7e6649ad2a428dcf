import java.util.ArrayList;
import java.util.List;

/** The head "Deductions" of the description. */
final class DeductionSentences {
    private static final String SINGLE = "1 single: the lowest cell that is not placed and has one candidate is"
            + " placed, and its digit is removed from the candidates of its peers.";
    private static final String ONLY_PLACE = "2 only place: for the lowest unit, and in it for the lowest digit, for"
            + " which exactly one cell of the unit has the digit as a candidate, and this cell has other candidates,"
            + " too: these others are removed.";

    /** The next deduction is this one, by its hint, its place in the log and what it removes. */
    private static void next(Check check, NumberPlace x, String what, int kind, int place, int removed) {
        int before = x.count(3);
        int logged = x.logged();
        check.due(what + ": hint", x.hint(), kind);
        check.due(what + ": hintPlace", x.hintPlace(), place);
        check.due(what + ": deduce", x.deduce(1), 1);
        check.due(what + ": logged", x.logged(), logged + 1);
        if (x.logged() == logged + 1) {
            check.due(what + ": kind", x.step(logged, 0), kind);
            check.due(what + ": place", x.step(logged, 1), place);
            check.due(what + ": removed", x.step(logged, 2), removed);
        }
        check.due(what + ": candidates", x.count(3), before - removed);
    }

    private static void none(Check check, NumberPlace x, String what) {
        check.due(what + ": no hint", x.hint(), 0);
        check.due(what + ": no place", x.hintPlace(), NumberPlace.NONE);
        check.due(what + ": nothing done", x.deduce(500), 0);
    }

    @Sentence("A deduction changes the candidates.")
    static void deductions_changeCandidates(Check check) {
        NumberPlace x = Check.desk("6", ";a:0:28;k9:20:27;t:30:31");
        int before = 216 - 5;
        while (x.hint() != 0 && x.logged() < 100) {
            x.deduce(1);
            before -= x.step(x.logged() - 1, 2);
            check.due("candidates behind " + x.logged(), x.count(3), before);
        }
        check.due("givens stay", x.count(1), 1);
        check.due("constraints stay", x.count(0), 3);
    }

    /** Makes a deduction of a kind possible, and none of a lower kind; the places of the kinds differ. */
    private static void makePossible(NumberPlace x, int kind) {
        switch (kind) {
            case 1:
                x.give(35, 6);
                break;
            case 2:
                for (int cell = 18; cell < 23; cell++) {
                    x.strike(cell, 4);
                }
                break;
            case 3:
                x.addConstraint(2, 15, 0);
                x.extend(x.count(0) - 1, 16);
                break;
            case 4:
                x.addConstraint(0, 10, 3);
                x.extend(x.count(0) - 1, 3);
                break;
            case 5:
                x.addConstraint(1, 13, 0);
                x.extend(x.count(0) - 1, 7);
                x.extend(x.count(0) - 1, 8);
                break;
            case 6:
                Check.strikeAll(x, 27, 5);
                Check.strikeAll(x, 28, 5);
                Check.strikeAll(x, 29, 5);
                break;
            default:
                Check.strikeAll(x, 0, 3, 4, 5, 6);
                Check.strikeAll(x, 5, 3, 4, 5, 6);
                break;
        }
    }

    @Sentence("The kinds are tried in this order; of a kind the first one is done that is possible:")
    static void deductions_kindsInOrder(Check check) {
        for (int one = 1; one <= 7; one++) {
            for (int other = 1; other <= 7; other++) {
                NumberPlace x = new NumberPlace();
                makePossible(x, one);
                check.due("alone, kind " + one, x.hint(), one);
                if (one != other) {
                    makePossible(x, other);
                    check.due("kinds " + one + " and " + other, x.hint(), Math.min(one, other));
                    x.deduce(1);
                    check.due("kinds " + one + " and " + other + ", done", x.step(0, 0), Math.min(one, other));
                }
            }
        }
        NumberPlace all = new NumberPlace();
        for (int kind = 7; kind >= 1; kind--) {
            makePossible(all, kind);
            check.due("the lowest of all kinds from " + kind, all.hint(), kind);
        }
    }

    @Sentence("of a kind the first one is done that is possible:")
    static void deductions_oneAtATime(Check check) {
        NumberPlace x = new NumberPlace();
        for (int cell : new int[] {0, 14, 28}) {
            x.give(cell, 2);
        }
        next(check, x, "the first", 1, 0, 12);
        check.due("only one is placed", x.count(2), 1);
        next(check, x, "the second", 1, 14, 8);
        check.due("two are placed", x.count(2), 2);
    }

    @Sentence(SINGLE)
    static void deductions_singleOfTheLowestCell(Check check) {
        NumberPlace x = new NumberPlace();
        x.give(35, 1);
        x.give(20, 2);
        Check.strikeAll(x, 3, 1, 2, 4, 5, 6);
        next(check, x, "struck, not given", 1, 3, 12);
        check.due("its digit", x.cell(3, 0), 3);
        next(check, x, "the next cell", 1, 20, 12);
        next(check, x, "the last cell", 1, 35, 12);
        none(check, x, "placed cells are no singles any more");
        for (int cell = 0; cell < 36; cell++) {
            for (int digit = 1; digit <= 6; digit++) {
                NumberPlace y = new NumberPlace();
                y.give(cell, digit);
                next(check, y, digit + " in " + cell, 1, cell, 12);
                check.due("placed " + cell, y.cell(cell, 0), digit);
            }
        }
    }

    @Sentence("has one candidate is placed")
    static void deductions_singleHasOneCandidate(Check check) {
        NumberPlace x = new NumberPlace();
        Check.strikeAll(x, 8, 1, 2, 3, 4);
        check.due("two candidates are no single", x.hint() == 1, false);
        x.strike(8, 5);
        next(check, x, "one candidate", 1, 8, 12);
    }

    @Sentence("its digit is removed from the candidates of its peers.")
    static void deductions_singleRemovesFromPeers(Check check) {
        NumberPlace x = Check.desk("5", ";k9:0:22:29;t:35:34;a:0:28");
        x.strike(1, 5);
        next(check, x, "with two peers by a cage, and one that lost it", 1, 0, 13);
        check.due("peer by the cage", x.candidates(22) & x.candidates(29), 126 - 32);
        check.due("no peer by an arrow", x.candidates(28), 126);
        check.due("the cell keeps it", x.candidates(0), 32);
        NumberPlace y = new NumberPlace();
        for (int cell = 1; cell < 36; cell++) {
            if (Geometry.share(0, cell)) {
                y.strike(cell, 1);
            }
        }
        Check.strikeAll(y, 0, 2, 3, 4, 5, 6);
        next(check, y, "no peer had it", 1, 0, 0);
        NumberPlace z = Check.desk("1....1", "");
        next(check, z, "a peer's last candidate", 1, 0, 12);
        none(check, z, "dead by a single");
    }

    @Sentence(ONLY_PLACE)
    static void deductions_onlyPlaceOfTheLowestUnitAndDigit(Check check) {
        NumberPlace x = new NumberPlace();
        for (int k = 0; k < 5; k++) {
            x.strike(24 + k, 1);
            x.strike(12 + k, 6);
            x.strike(13 + k, 5);
        }
        next(check, x, "the lower unit, in it the lower digit", 2, 2, 4);
        check.due("5 in the first cell", x.candidates(12), 32);
        x.deduce(1);
        next(check, x, "the same unit, 6 in the last cell", 2, 2, 4);
        check.due("6 in the last cell", x.candidates(17), 64);
        x.deduce(1);
        next(check, x, "the other unit", 2, 4, 4);
        check.due("1 in the last cell", x.candidates(29), 2);
    }

    @Sentence("for the lowest unit")
    static void deductions_onlyPlaceRowsColumnsBoxes(Check check) {
        NumberPlace x = new NumberPlace();
        for (int cell : new int[] {27, 28, 29, 33, 34}) {
            x.strike(cell, 1);
        }
        check.due("a box", x.hintPlace(), 17);
        for (int row = 0; row < 5; row++) {
            x.strike(6 * row + 1, 3);
        }
        check.due("a column before it", x.hintPlace(), 7);
        for (int cell = 12; cell < 17; cell++) {
            x.strike(cell, 6);
        }
        next(check, x, "a row before them", 2, 2, 5);
    }

    @Sentence("exactly one cell of the unit has the digit as a candidate")
    static void deductions_onlyPlaceIsExactlyOne(Check check) {
        NumberPlace x = new NumberPlace();
        for (int cell = 6; cell < 10; cell++) {
            x.strike(cell, 4);
        }
        check.due("two cells have it", x.hint() == 2, false);
        x.strike(10, 4);
        check.due("one has it", x.hint() * 100 + x.hintPlace(), 201);
        x.strike(11, 4);
        check.due("none has it", x.hint() == 2, false);
    }

    @Sentence("and this cell has other candidates, too: these others are removed.")
    static void deductions_onlyPlaceHasOthers(Check check) {
        for (int others = 1; others <= 5; others++) {
            NumberPlace x = new NumberPlace();
            for (int cell = 6; cell < 11; cell++) {
                x.strike(cell, 1);
            }
            for (int digit = 6; digit > others + 1; digit--) {
                x.strike(11, digit);
            }
            next(check, x, others + " others", 2, 1, others);
            next(check, x, "then a single", 1, 11, 7);
            check.due("and no only place again", x.hint() == 2, false);
        }
    }

    @Sentence("3 thermometer: for the lowest constraint that is a thermometer and for which something is removed:")
    static void deductions_thermometerIsTheLowestThatRemoves(Check check) {
        NumberPlace x = Check.desk("", ";k3:20:27;t:0:1;t:3:4;a:13:7:8;t:5:11");
        next(check, x, "the lowest thermometer", 3, 1, 2);
        next(check, x, "the next one", 3, 2, 2);
        next(check, x, "the last one", 3, 4, 2);
        next(check, x, "then the cage", 4, 0, 8);
        x.strike(4, 6);
        next(check, x, "one for which something is removed anew", 3, 2, 1);
        x.strike(30, 6);
        check.due("no thermometer removes", x.hint() == 3, false);
    }

    @Sentence({"as long as something is removed, each candidate of a cell of it is removed that is not greater than"
        + " the smallest candidate of the cell before it, or not less than the greatest candidate of the cell"
        + " behind it."})
    static void deductions_thermometerRemovesTheNotGreater(Check check) {
        NumberPlace x = Check.desk("", ";t:7:20");
        x.strike(7, 1);
        x.strike(7, 2);
        x.strike(20, 6);
        next(check, x, "two cells", 3, 0, 2 + 3);
        check.due("less than 5", x.candidates(7), 8 + 16);
        check.due("greater than 3", x.candidates(20), 16 + 32);
        for (int low = 1; low < 63; low++) {
            for (int high = 1; high < 63; high++) {
                ways(check, low << 1, high << 1);
            }
        }
    }

    /** Two cells with these candidates: what goes is what has no partner, as pairs of digits show. */
    private static void ways(Check check, int low, int high) {
        NumberPlace x = Check.desk("", ";t:7:20");
        int keptLow = 0;
        int keptHigh = 0;
        for (int digit = 1; digit <= 6; digit++) {
            if ((low >> digit & 1) == 0) {
                x.strike(7, digit);
            }
            if ((high >> digit & 1) == 0) {
                x.strike(20, digit);
            }
            for (int above = digit + 1; above <= 6; above++) {
                if ((low >> digit & 1) != 0 && (high >> above & 1) != 0) {
                    keptLow |= 1 << digit;
                    keptHigh |= 1 << above;
                }
            }
        }
        int removed = Integer.bitCount(low ^ keptLow) + Integer.bitCount(high ^ keptHigh);
        if (Integer.bitCount(low) > 1 && Integer.bitCount(high) > 1) {
            check.due("thermometer " + low + ", " + high, x.hint() == 3, removed > 0);
            if (removed > 0) {
                x.deduce(1);
                check.due("low of " + low + ", " + high, x.candidates(7), keptLow);
                check.due("high of " + low + ", " + high, x.candidates(20), keptHigh);
                check.due("removed of " + low + ", " + high, x.step(0, 2), removed);
            }
        }
    }

    @Sentence("as long as something is removed, each candidate")
    static void deductions_thermometerGoesOn(Check check) {
        NumberPlace x = Check.desk("", ";t:0:9:13:22:26:35");
        next(check, x, "all six in one deduction", 3, 0, 30);
        int[] cells = {0, 9, 13, 22, 26, 35};
        for (int k = 0; k < 6; k++) {
            check.due("digit " + (k + 1), x.candidates(cells[k]), 2 << k);
        }
        NumberPlace up = Check.desk("", ";t:0:9:13:22");
        Check.strikeAll(up, 0, 1, 2);
        next(check, up, "pushed up", 3, 0, 3 + 5 + 5 + 5);
        check.due("pushed up", up.candidates(22), 64);
        check.due("held down", up.candidates(0), 8);
        NumberPlace down = Check.desk("", ";t:0:9:13:22");
        Check.strikeAll(down, 22, 5, 6);
        next(check, down, "pushed down", 3, 0, 5 + 5 + 5 + 3);
        check.due("pushed down", down.candidates(0), 2);
        check.due("held up", down.candidates(22), 16);
    }

    @Sentence("(Where a cell has no candidates, its neighbors on the thermometer lose all of theirs.)")
    static void deductions_thermometerWithoutWay(Check check) {
        int[] cells = {0, 9, 13, 22, 26, 35};
        for (int size = 2; size <= 6; size++) {
            for (int bad = 0; bad < size; bad++) {
                NumberPlace x = new NumberPlace();
                x.addConstraint(2, cells[0], 0);
                for (int k = 1; k < size; k++) {
                    x.extend(0, cells[k]);
                }
                // Two candidates that are too small, or too great, for where the cell stands.
                boolean small = bad >= 2;
                boolean great = size - 1 - bad >= 2;
                if (small || great) {
                    Check.strikeAll(x, cells[bad], 3, 4);
                    Check.strikeAll(x, cells[bad], small ? 5 : 1, small ? 6 : 2);
                    next(check, x, "cell " + bad + " of " + size, 3, 0, 6 * (size - 1) + 2);
                    for (int k = 0; k < size; k++) {
                        check.due("all are lost", x.candidates(cells[k]), 0);
                    }
                    none(check, x, "dead by a thermometer");
                }
            }
        }
        NumberPlace pair = Check.desk("", ";t:0:9");
        Check.strikeAll(pair, 0, 1, 2, 3, 4);
        Check.strikeAll(pair, 9, 5, 6);
        next(check, pair, "two cells without a way", 3, 0, 2 + 4);
    }

    @Sentence("4 cage: for the lowest cage for which something is removed:")
    static void deductions_cageIsTheLowestThatRemoves(Check check) {
        NumberPlace x = Check.desk("", ";k7:0:9;a:30:31;k3:20:27;k11:3:10;t:16:17;k4:28:35");
        next(check, x, "a thermometer", 3, 4, 2);
        next(check, x, "the lowest cage that removes", 4, 2, 8);
        next(check, x, "the next one", 4, 3, 8);
        next(check, x, "the last one", 4, 5, 8);
        x.strike(9, 2);
        next(check, x, "the first one when it removes", 4, 0, 1);
        check.due("5 lost its partner", x.candidates(0), 126 - 32);
    }

    /** Compares a cage's or an arrow's deduction with a walk over all ways. */
    private static void walk(Check check, int kind, int sum, int[] open) {
        int[] cells = {0, 9, 13, 22};
        NumberPlace x = new NumberPlace();
        x.addConstraint(kind, cells[0], sum);
        int kept = 0;
        int there = 0;
        for (int k = 0; k < open.length; k++) {
            if (k > 0) {
                x.extend(0, cells[k]);
            }
            for (int digit = 1; digit <= 6; digit++) {
                if ((open[k] >> digit & 1) == 0) {
                    x.strike(cells[k], digit);
                }
            }
            there += Integer.bitCount(open[k]);
        }
        int[] keeps = Ways.keep(kind, sum, open);
        for (int digits : keeps) {
            kept += Integer.bitCount(digits);
        }
        String what = "kind " + kind + " of " + open.length + " for " + sum;
        check.due(what + ": hint", x.hint(), there == kept ? 0 : kind == 0 ? 4 : 5);
        if (there != kept) {
            x.deduce(1);
            check.due(what + ": removed", x.step(0, 2), there - kept);
            for (int k = 0; k < open.length; k++) {
                check.due(what + ": cell " + k, x.candidates(cells[k]), keeps[k]);
            }
        }
    }

    @Sentence({"all candidates are removed that do not occur in any way to give its cells different digits out of"
        + " their candidates with its sum."})
    static void deductions_cageKeepsWhatOccurs(Check check) {
        for (int sum = 1; sum <= 24; sum++) {
            walk(check, 0, sum, new int[] {126, 126});
            walk(check, 0, sum, new int[] {126, 126, 126});
            walk(check, 0, sum, new int[] {126, 126, 126, 126});
            walk(check, 0, sum, new int[] {126 - 2, 126 - 64});
            walk(check, 0, sum, new int[] {126 - 8, 126 - 4 - 8, 126});
            walk(check, 0, sum, new int[] {126, 126, 126 - 64, 126 - 2 - 64});
            walk(check, 0, sum, new int[] {126 - 2, 126 - 2, 126 - 2, 126 - 64});
        }
    }

    @Sentence("for the lowest arrow for which something is removed:")
    static void deductions_arrowIsTheLowestThatRemoves(Check check) {
        NumberPlace x = Check.desk("", ";a:0:9;k7:27:34;a:14:21:28;a:17:10:3;k3:24:31");
        next(check, x, "a cage first", 4, 4, 8);
        next(check, x, "the lowest arrow that removes", 5, 2, 3);
        next(check, x, "the next one", 5, 3, 3);
        x.strike(9, 2);
        next(check, x, "the first one when it removes", 5, 0, 1);
        check.due("2 lost its partner", x.candidates(0), 126 - 4);
    }

    @Sentence({"5 arrow: for the lowest arrow", "all candidates are removed that do not occur in any way to give its"
        + " cells digits out of their candidates of which the first is the sum of the others."})
    static void deductions_arrowKeepsWhatOccurs(Check check) {
        for (int first = 2; first <= 126; first += 2) {
            if (Integer.bitCount(first) > 1) {
                walk(check, 1, 0, new int[] {first, 126});
                walk(check, 1, 0, new int[] {126, first});
                walk(check, 1, 0, new int[] {first, 126 - 4, 126});
                walk(check, 1, 0, new int[] {126 - 64, first, 126 - 8});
                walk(check, 1, 0, new int[] {first, 126, 126, 126});
                walk(check, 1, 0, new int[] {126, 126, first, 126 - 2});
            }
        }
    }

    /** Strikes a digit everywhere in a unit but in the cells that another unit has, too. */
    static void lock(NumberPlace x, int unit, int other, int digit) {
        List<Integer> keep = new ArrayList<>();
        for (int cell : Geometry.unit(other)) {
            keep.add(cell);
        }
        for (int cell : Geometry.unit(unit)) {
            if (!keep.contains(cell)) {
                x.strike(cell, digit);
            }
        }
    }

    @Sentence("if at least one cell of the box has the digit as a candidate, and all of these lie in the line, it is"
            + " removed from the other cells of the line;")
    static void deductions_lockedBoxInLine(Check check) {
        for (int digit = 1; digit <= 6; digit++) {
            NumberPlace x = new NumberPlace();
            lock(x, 14, 8, digit);
            next(check, x, "box 2 in column 2", 6, 2, 4);
            for (int cell : Geometry.unit(8)) {
                boolean inBox = cell == 14 || cell == 20;
                check.due("cell " + cell, x.candidates(cell), inBox ? 126 : 126 - (1 << digit));
            }
            none(check, x, "locked");
        }
        NumberPlace x = new NumberPlace();
        lock(x, 12, 1, 3);
        next(check, x, "box 0 in row 1", 6, 0, 3);
        check.due("the rest of the row", x.candidates(9) | x.candidates(10) | x.candidates(11), 126 - 8);
        check.due("the box keeps it", x.candidates(6) & x.candidates(7) & x.candidates(8), 126);
    }

    @Sentence("otherwise, if at least one cell of the line has it, and all of these lie in the box, it is removed from"
            + " the other cells of the box.")
    static void deductions_lockedLineInBox(Check check) {
        for (int digit = 1; digit <= 6; digit++) {
            NumberPlace x = new NumberPlace();
            lock(x, 8, 14, digit);
            next(check, x, "column 2 in box 2", 6, 2, 4);
            for (int cell : Geometry.unit(14)) {
                boolean inLine = cell == 14 || cell == 20;
                check.due("cell " + cell, x.candidates(cell), inLine ? 126 : 126 - (1 << digit));
            }
            none(check, x, "locked");
        }
        NumberPlace x = new NumberPlace();
        lock(x, 0, 12, 3);
        next(check, x, "row 0 in box 0", 6, 0, 3);
        check.due("the rest of the box", x.candidates(6) | x.candidates(7) | x.candidates(8), 126 - 8);
        check.due("the row keeps it", x.candidates(0) & x.candidates(1) & x.candidates(2), 126);
    }

    @Sentence("6 locked: for the lowest box,")
    static void deductions_lockedLowestBox(Check check) {
        NumberPlace x = new NumberPlace();
        lock(x, 17, 11, 1);
        lock(x, 15, 9, 6);
        next(check, x, "the lower box though the digit and the line are greater", 6, 3, 4);
        check.due("column 3", x.candidates(3), 126 - 64);
        next(check, x, "the other box", 6, 5, 4);
        check.due("column 5", x.candidates(5), 126 - 2);
    }

    @Sentence("in it for the lowest line that it meets (rows 0 to 5, then columns as 6 to 11),")
    static void deductions_lockedLowestLine(Check check) {
        for (int box = 0; box < 6; box += 2) {
            NumberPlace x = new NumberPlace();
            for (int line = 8; line >= 7; line--) {
                lock(x, 12 + box, line, 12 - line);
            }
            lock(x, box, 12 + box, 6);
            next(check, x, "the row first, of box " + box, 6, box, 3);
            check.due("the row's digit", x.candidates(6 * box + 6), 2 + 4 + 8);
            next(check, x, "the lower column, of box " + box, 6, box, 4);
            check.due("the lower column", x.candidates(box == 0 ? 13 : 1), 126 - 32);
            next(check, x, "the higher column, of box " + box, 6, box, 4);
            check.due("the higher column", x.candidates(box == 0 ? 14 : 2), 126 - 16);
        }
        for (int box = 0; box < 6; box++) {
            for (int line = 0; line < 12; line++) {
                int meet = 0;
                for (int cell : Geometry.unit(line)) {
                    for (int other : Geometry.unit(12 + box)) {
                        meet += cell == other ? 1 : 0;
                    }
                }
                NumberPlace x = new NumberPlace();
                if (meet > 0) {
                    lock(x, 12 + box, line, 2);
                    // The box beside it has the row's neighbour to itself, and may be the lower one.
                    check.due("box " + box + ", line " + line, x.hintPlace(), line < 6 ? box / 2 * 2 : box);
                }
            }
        }
    }

    @Sentence("and for this for the lowest digit for which one of these is possible:")
    static void deductions_lockedLowestDigit(Check check) {
        NumberPlace x = new NumberPlace();
        lock(x, 12, 0, 5);
        lock(x, 0, 12, 2);
        lock(x, 0, 12, 6);
        next(check, x, "2, the line's in the box", 6, 0, 3);
        check.due("2 is gone", x.candidates(6) & 4, 0);
        next(check, x, "then 5, the box's in the line", 6, 0, 3);
        check.due("5 is gone", x.candidates(3) & 32, 0);
        next(check, x, "then 6", 6, 0, 3);
        check.due("6 is gone", x.candidates(6) & 64, 0);
    }

    @Sentence({"if at least one cell of the box has the digit", "if at least one cell of the line has it"})
    static void deductions_lockedAtLeastOne(Check check) {
        NumberPlace x = new NumberPlace();
        for (int cell : Geometry.unit(12)) {
            x.strike(cell, 1);
        }
        next(check, x, "no cell of box 0 has it: row 0 in box 1", 6, 1, 3);
        check.due("box 1 loses it in row 1", x.candidates(9) | x.candidates(10) | x.candidates(11), 124);
        check.due("box 1 keeps it in row 0", x.candidates(3) & x.candidates(4) & x.candidates(5), 126);
        NumberPlace y = new NumberPlace();
        for (int cell : Geometry.unit(0)) {
            y.strike(cell, 1);
        }
        next(check, y, "no cell of row 0 has it: box 0 in row 1", 6, 0, 3);
        check.due("box 0 keeps it", y.candidates(6) & y.candidates(7) & y.candidates(8), 126);
        check.due("row 1 loses it in box 1", y.candidates(9) | y.candidates(10) | y.candidates(11), 124);
    }

    @Sentence("(Possible means that something is removed.)")
    static void deductions_lockedRemovesSomething(Check check) {
        NumberPlace x = new NumberPlace();
        lock(x, 12, 6, 4);
        lock(x, 6, 12, 4);
        none(check, x, "the box's are the line's");
        lock(x, 16, 6, 5);
        next(check, x, "the next one that removes something", 6, 4, 4);
    }

    @Sentence({"7 pair: for the lowest unit,", "these are removed from the other cells of the unit"})
    static void deductions_pairOfTheLowestUnit(Check check) {
        NumberPlace x = new NumberPlace();
        Check.strikeAll(x, 30, 1, 2, 3, 4);
        Check.strikeAll(x, 33, 1, 2, 3, 4);
        Check.strikeAll(x, 6, 1, 3, 5, 6);
        Check.strikeAll(x, 9, 1, 3, 5, 6);
        next(check, x, "the lower row", 7, 1, 8);
        check.due("its rest", x.candidates(7) | x.candidates(8) | x.candidates(10) | x.candidates(11), 126 - 4 - 16);
        check.due("its pair", x.candidates(6) & x.candidates(9), 4 + 16);
        next(check, x, "the higher row", 7, 5, 8);
        none(check, x, "both are done");
    }

    @Sentence("7 pair: for the lowest unit")
    static void deductions_pairInSeveralUnits(Check check) {
        NumberPlace x = new NumberPlace();
        Check.strikeAll(x, 13, 1, 2, 5, 6);
        Check.strikeAll(x, 19, 1, 2, 5, 6);
        next(check, x, "a column before its box", 7, 7, 8);
        next(check, x, "then 3 is locked in the box", 6, 2, 4);
        next(check, x, "then 4", 6, 2, 4);
        none(check, x, "the box has nothing left for its pair");
        NumberPlace y = new NumberPlace();
        Check.strikeAll(y, 27, 1, 2, 5, 6);
        Check.strikeAll(y, 28, 1, 2, 5, 6);
        next(check, y, "a row before its box", 7, 4, 8);
        next(check, y, "then 3 is locked in the other box", 6, 4, 3);
        next(check, y, "then 4", 6, 4, 3);
        NumberPlace z = new NumberPlace();
        Check.strikeAll(z, 18, 1, 2, 3, 6);
        Check.strikeAll(z, 14, 1, 2, 3, 6);
        next(check, z, "a box alone", 7, 14, 8);
    }

    @Sentence("in it for the first cell and then the second cell behind it,")
    static void deductions_pairOfTheFirstCells(Check check) {
        NumberPlace x = new NumberPlace();
        for (int cell : new int[] {1, 4}) {
            Check.strikeAll(x, cell, 1, 2, 3, 4);
        }
        for (int cell : new int[] {0, 5}) {
            Check.strikeAll(x, cell, 3, 4, 5, 6);
        }
        next(check, x, "the first cell is the lowest", 7, 0, 4);
        check.due("1 and 2 went", x.candidates(2) & x.candidates(3), 126 - 2 - 4);
        next(check, x, "the other pair", 7, 0, 4);
        NumberPlace y = new NumberPlace();
        for (int cell : new int[] {7, 13, 31}) {
            Check.strikeAll(y, cell, 3, 4, 5, 6);
        }
        next(check, y, "of three the first two", 7, 7, 3 * 2 + 2);
        check.due("the third lost all", y.candidates(31), 0);
        check.due("the second kept both", y.candidates(13), 2 + 4);
    }

    @Sentence("that have the same two candidates:")
    static void deductions_pairHasTheSameTwo(Check check) {
        NumberPlace x = new NumberPlace();
        Check.strikeAll(x, 6, 3, 4, 5, 6);
        Check.strikeAll(x, 9, 2, 4, 5, 6);
        none(check, x, "1, 2 and 1, 3");
        NumberPlace y = new NumberPlace();
        Check.strikeAll(y, 6, 4, 5, 6);
        Check.strikeAll(y, 9, 4, 5, 6);
        none(check, y, "three candidates each");
        NumberPlace z = new NumberPlace();
        Check.strikeAll(z, 6, 3, 4, 5, 6);
        Check.strikeAll(z, 9, 4, 5, 6);
        none(check, z, "two and three candidates");
        NumberPlace w = new NumberPlace();
        Check.strikeAll(w, 6, 3, 4, 5, 6);
        Check.strikeAll(w, 15, 3, 4, 5, 6);
        none(check, w, "not in one unit");
    }

    @Sentence("if that removes something.")
    static void deductions_pairRemovesSomething(Check check) {
        NumberPlace x = new NumberPlace();
        for (int cell : new int[] {7, 8, 9, 10}) {
            Check.strikeAll(x, cell, 1, 2);
        }
        Check.strikeAll(x, 6, 3, 4, 5, 6);
        Check.strikeAll(x, 11, 3, 4, 5, 6);
        none(check, x, "a pair that nothing else shares");
        Check.strikeAll(x, 8, 5, 6);
        Check.strikeAll(x, 9, 5, 6);
        next(check, x, "a second pair of the unit", 7, 1, 4);
        check.due("3 and 4 went", x.candidates(7) & x.candidates(10), 32 + 64);
        for (int unit = 0; unit < 18; unit++) {
            int[] cells = Geometry.unit(unit);
            NumberPlace one = new NumberPlace();
            Check.strikeAll(one, cells[1], 3, 4, 5, 6);
            Check.strikeAll(one, cells[5], 3, 4, 5, 6);
            Check.strikeAll(one, cells[0], 1, 2);
            Check.strikeAll(one, cells[2], 1, 2);
            Check.strikeAll(one, cells[3], 1, 2);
            Check.strikeAll(one, cells[4], 2);
            while (one.hint() == 6) {
                one.deduce(1);
            }
            next(check, one, "just one candidate in unit " + unit, 7, unit, 1);
        }
    }

    @Sentence("A dead position has no deductions.")
    static void deductions_noneWhenDead(Check check) {
        for (int kind = 1; kind <= 7; kind++) {
            NumberPlace x = new NumberPlace();
            makePossible(x, kind);
            Check.strikeAll(x, 25, 1, 2, 3, 4, 5, 6);
            none(check, x, "dead, kind " + kind);
            check.due("needs none, kind " + kind, x.needs(kind), 0);
            x.undo();
            x.undo();
            check.due("alive again, kind " + kind, x.hint() != 0, true);
        }
    }
}
