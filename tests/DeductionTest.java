import java.util.ArrayList;
import java.util.List;

/** Promises 14 to 19: every kind of deduction, hints, the log and needs. */
public final class DeductionTest {
    private static final Check check = new Check();

    public static void main(String[] args) {
        Watch.begin("DeductionTest");
        single();
        onlyPlace();
        everyUnitAndDigit();
        thermometer();
        cage();
        arrow();
        locked();
        lockedLines();
        pair();
        pairs();
        order();
        deadPosition();
        steps();
        stepRefusals();
        needs();
        check.end();
    }

    /** The next deduction is this one: the hint tells it, and doing it logs it. */
    private static void next(NumberPlace x, String what, int kind, int place, int removed) {
        long before = x.digest();
        int candidates = x.count(3);
        check.due("15: hint, " + what, x.hint(), kind);
        check.due("16: hintPlace, " + what, x.hintPlace(), place);
        check.due("15: a hint changes nothing, " + what, x.digest(), before);
        int logged = x.logged();
        check.due("14: deduce, " + what, x.deduce(1), 1);
        check.due("17: logged, " + what, x.logged(), logged + 1);
        check.due("18: kind, " + what, x.step(logged, 0), kind);
        check.due("18: place, " + what, x.step(logged, 1), place);
        check.due("18: removed, " + what, x.step(logged, 2), removed);
        check.due("14: candidates, " + what, x.count(3), candidates - removed);
    }

    private static void end(NumberPlace x, String what) {
        check.due("15: hint, " + what, x.hint(), 0);
        check.due("16: hintPlace, " + what, x.hintPlace(), -1);
        check.due("14: deduce, " + what, x.deduce(500), 0);
    }

    private static void single() {
        NumberPlace x = Check.desk("......3..............1", "");
        next(x, "single 6", 1, 6, 12);
        check.due("14: placed", x.cell(6, 0), 3);
        check.due("14: peer in the row", x.candidates(11), 126 - 8);
        check.due("14: peer in the column", x.candidates(30), 126 - 8);
        check.due("14: peer in the box", x.candidates(2), 126 - 8);
        check.due("14: no peer", x.candidates(3), 126);
        next(x, "single 21", 1, 21, 12);
        end(x, "singles");
        NumberPlace y = Check.desk("5", ";k9:0:20:28");
        next(y, "single of a cage", 1, 0, 14);
        check.due("14: peer in the cage", y.candidates(28), 126 - 32);
        NumberPlace z = Check.desk("2..........4", "");
        z.deduce(2);
        z.give(3, 4);
        check.due("14: a peer had its digit", z.count(4), 1);
    }

    private static void onlyPlace() {
        NumberPlace x = new NumberPlace();
        for (int c = 0; c < 5; c++) {
            x.strike(c, 4);
        }
        next(x, "only place in a row", 2, 0, 5);
        check.due("14: only place", x.candidates(5), 16);
        next(x, "then the single", 1, 5, 7);
        NumberPlace y = new NumberPlace();
        for (int r = 1; r < 6; r++) {
            y.strike(6 * r + 2, 6);
        }
        next(y, "only place in a column", 2, 8, 5);
        check.due("14: only place in a column", y.candidates(2), 64);
        NumberPlace z = new NumberPlace();
        for (int c : new int[] {15, 16, 17, 21, 22}) {
            Check.strikeAll(z, c, 2, 5);
        }
        next(z, "only place in a box, the lowest digit", 2, 15, 5);
        check.due("14: only place in a box", z.candidates(23), 4);
    }

    private static void everyUnitAndDigit() {
        for (int unit = 0; unit < 18; unit++) {
            for (int digit = 1; digit <= 6; digit++) {
                NumberPlace x = new NumberPlace();
                for (int k = 0; k < 5; k++) {
                    x.strike(PlainDesk.UNITS.get(unit).get(k), digit);
                }
                check.due("16: hintPlace alone, unit " + unit, x.hintPlace(), unit);
                next(x, "only place for " + digit + " in unit " + unit, 2, unit, 5);
            }
        }
    }

    private static void thermometer() {
        NumberPlace x = Check.desk("", ";t:0:1:2");
        next(x, "thermometer of three", 3, 0, 6);
        check.due("14: bulb", x.candidates(0), 2 + 4 + 8 + 16);
        check.due("14: middle", x.candidates(1), 4 + 8 + 16 + 32);
        check.due("14: tip", x.candidates(2), 8 + 16 + 32 + 64);
        NumberPlace y = new NumberPlace();
        y.addConstraint(2, 35, 0);
        y.addConstraint(2, 30, 0);
        for (int cell = 25; cell >= 5; cell -= 5) {
            y.extend(1, cell);
        }
        next(y, "thermometer of six behind one of a single cell", 3, 1, 30);
        for (int k = 0; k < 6; k++) {
            check.due("14: step " + k, y.candidates(y.cellOf(1, k)), 2 << k);
        }
        NumberPlace z = Check.desk("6", ";t:0:1");
        next(z, "single at the bulb", 1, 0, 12);
        next(z, "a thermometer that can't ascend", 3, 0, 6);
        check.due("14: all lost", z.candidates(0) + z.candidates(1), 0);
        end(z, "dead by a thermometer");
    }

    private static void cage() {
        NumberPlace x = Check.desk("", ";k3:0:35");
        next(x, "cage of three", 4, 0, 8);
        check.due("14: cage", x.candidates(35), 2 + 4);
        end(x, "cage of three");
        x.give(0, 2);
        next(x, "single in the cage", 1, 0, 13);
        check.due("14: rest", x.candidates(35), 2);
        NumberPlace y = Check.desk("", ";k10:0:8:16:24");
        next(y, "cage of 10", 4, 0, 8);
        check.due("14: 1 to 4", y.candidates(16), 2 + 4 + 8 + 16);
        NumberPlace z = Check.desk("", ";k8:2:28");
        next(z, "different digits", 4, 0, 4);
        check.due("14: no two fours", z.candidates(2), 4 + 8 + 32 + 64);
        NumberPlace dead = Check.desk("", ";k24:0:35:20");
        next(dead, "a sum too great", 4, 0, 18);
        end(dead, "dead by a cage");
        NumberPlace full = Check.desk("", ";k18:0:35:20:8;k19:1:2:3:4");
        next(full, "the greatest sum of four", 4, 0, 8);
        next(full, "one more than that", 4, 1, 24);
    }

    private static void arrow() {
        NumberPlace x = Check.desk("", ";a:0:28");
        end(x, "an arrow of two equal digits");
        x.strike(0, 4);
        next(x, "arrow of two", 5, 0, 1);
        check.due("14: the same", x.candidates(28), 126 - 16);
        NumberPlace y = Check.desk("", ";a:0:28:35");
        next(y, "arrow of three", 5, 0, 3);
        check.due("14: sum", y.candidates(0), 124);
        check.due("14: parts", y.candidates(28), 62);
        NumberPlace z = Check.desk("", ";a:7:0:8:14");
        next(z, "arrow of four, digits may be the same", 5, 0, 8);
        check.due("14: sum of three", z.candidates(7), 8 + 16 + 32 + 64);
        check.due("14: part of three", z.candidates(14), 2 + 4 + 8 + 16);
        NumberPlace dead = Check.desk("1", ";a:0:28:35");
        next(dead, "single", 1, 0, 12);
        next(dead, "no sum of two is 1", 5, 0, 13);
        end(dead, "dead by an arrow");
    }

    private static void locked() {
        NumberPlace x = new NumberPlace();
        Check.strikeAll(x, 3, 1);
        Check.strikeAll(x, 4, 1);
        Check.strikeAll(x, 5, 1);
        next(x, "the row's in the box", 6, 0, 3);
        check.due("14: rest of the box", x.candidates(6) & x.candidates(7) & x.candidates(8), 124);
        NumberPlace y = new NumberPlace();
        Check.strikeAll(y, 33, 6);
        Check.strikeAll(y, 34, 6);
        Check.strikeAll(y, 35, 6);
        next(y, "row 5 and box 4", 6, 4, 3);
        check.due("14: the row's lie in the box", y.candidates(24), 126 - 64);
        check.due("14: the line keeps its own", y.candidates(30), 126);
        NumberPlace z = new NumberPlace();
        for (int c : new int[] {16, 17, 22, 23}) {
            z.strike(c, 5);
        }
        next(z, "the box's in a column", 6, 3, 4);
        check.due("14: rest of the column", z.candidates(3) | z.candidates(33), 126 - 32);
        check.due("14: the box keeps its own", z.candidates(15) & z.candidates(21), 126);
        end(z, "locked");
    }

    /** For every box and line that meet, and every digit: the box's lie in the line. */
    private static void lockedLines() {
        for (int box = 0; box < 6; box++) {
            for (int line = 0; line < 12; line++) {
                List<Integer> rest = new ArrayList<>(PlainDesk.UNITS.get(12 + box));
                rest.removeAll(PlainDesk.UNITS.get(line));
                for (int digit = 1; digit <= 6 && rest.size() < 6; digit++) {
                    NumberPlace x = new NumberPlace();
                    for (int c : rest) {
                        x.strike(c, digit);
                    }
                    // Where it is a row, the box on the left may say it first: it has the other row.
                    int place = line < 6 ? box / 2 * 2 : box;
                    next(x, "box " + box + " in line " + line, 6, place, line < 6 ? 3 : 4);
                }
            }
        }
    }

    /** A pair in every unit that takes just one candidate from one cell. */
    private static void pairs() {
        for (int unit = 0; unit < 18; unit++) {
            List<Integer> cells = PlainDesk.UNITS.get(unit);
            NumberPlace x = new NumberPlace();
            // The digits 1 and 2 stand in the pair, and 1 besides in one more cell of the unit.
            Check.strikeAll(x, cells.get(1), 3, 4, 5, 6);
            Check.strikeAll(x, cells.get(5), 3, 4, 5, 6);
            Check.strikeAll(x, cells.get(0), 1, 2);
            Check.strikeAll(x, cells.get(2), 1, 2);
            Check.strikeAll(x, cells.get(3), 1, 2);
            Check.strikeAll(x, cells.get(4), 2);
            while (x.hint() == 6) {
                x.deduce(1);
            }
            next(x, "pair in unit " + unit, 7, unit, 1);
            check.due("14: pair in unit " + unit, x.candidates(cells.get(4)), 126 - 2 - 4);
        }
    }

    private static void pair() {
        NumberPlace x = new NumberPlace();
        Check.strikeAll(x, 30, 1, 2, 3, 4);
        Check.strikeAll(x, 33, 1, 2, 3, 4);
        next(x, "pair in a row", 7, 5, 8);
        check.due("14: rest of the row", x.candidates(31) | x.candidates(35), 2 + 4 + 8 + 16);
        check.due("14: the pair stays", x.candidates(30) & x.candidates(33), 32 + 64);
        end(x, "pair");
        NumberPlace y = new NumberPlace();
        for (int c : new int[] {0, 12, 24}) {
            Check.strikeAll(y, c, 3, 4, 5, 6);
        }
        next(y, "three alike in a column", 7, 6, 8);
        check.due("14: the third loses all", y.candidates(24), 0);
        end(y, "dead by a pair");
        NumberPlace z = new NumberPlace();
        Check.strikeAll(z, 18, 1, 2, 3, 6);
        Check.strikeAll(z, 14, 1, 2, 3, 6);
        next(z, "pair in a box", 7, 14, 8);
        check.due("14: rest of the box", z.candidates(12) | z.candidates(20), 2 + 4 + 8 + 64);
    }

    private static void order() {
        NumberPlace x = Check.desk("", ";a:0:28:35;k3:10:20;t:30:31");
        for (int c = 12; c < 17; c++) {
            x.strike(c, 6);
        }
        x.give(21, 1);
        next(x, "single first", 1, 21, 12);
        next(x, "then the only place", 2, 2, 4);
        next(x, "its single", 1, 17, 6);
        next(x, "then the thermometer", 3, 2, 2);
        next(x, "then the cage", 4, 1, 9);
    }

    private static void deadPosition() {
        NumberPlace x = Check.desk("12", ";k3:20:21;t:30:31");
        Check.strikeAll(x, 9, 1, 2, 3, 4, 5, 6);
        check.due("14: dead", x.count(4), 1);
        end(x, "dead");
        check.due("17: logged", x.logged(), 0);
        for (int kind = 1; kind <= 7; kind++) {
            check.due("19: needs " + kind + " when dead", x.needs(kind), 0);
        }
    }

    private static void steps() {
        NumberPlace x = new NumberPlace();
        x.make(3, 36);
        long before = x.digest();
        check.due("14: no steps", x.deduce(0), 0);
        check.due("14: undo of no steps", x.undo(), 1);
        check.due("14: three", x.deduce(3), 3);
        check.due("14: the rest", x.deduce(500), 33);
        check.due("14: the log goes on", x.logged(), 36);
        check.due("14: solved", x.count(5), 1);
        check.due("14: undo of the rest", x.undo(), 2);
        check.due("14: log of three", x.logged(), 3);
        check.due("14: undo of three", x.undo(), 1);
        check.due("14: as before", x.digest(), before);
        check.argument(x, "14: steps -1", () -> x.deduce(-1));
        check.argument(x, "14: steps 501", () -> x.deduce(501));
    }

    private static void stepRefusals() {
        NumberPlace x = Check.desk("1", "");
        check.index(x, "18: empty log", () -> x.step(0, 0));
        x.deduce(1);
        check.due("18: removed", x.step(0, 2), 12);
        check.index(x, "18: index 1", () -> x.step(1, 3));
        check.index(x, "18: index -1", () -> x.step(-1, 0));
        check.argument(x, "18: what 3", () -> x.step(0, 3));
        check.argument(x, "18: what -1", () -> x.step(0, -1));
    }

    private static void needs() {
        NumberPlace x = Check.desk("1..4....2..5...1...3....6....2..5..1", "");
        int[] due = new int[8];
        long before = x.digest();
        for (int kind = 1; kind <= 7; kind++) {
            due[kind] = x.needs(kind);
        }
        check.due("19: needs changes nothing", x.digest(), before);
        int n = x.deduce(500);
        check.due("19: logged", n <= 100 ? x.logged() : 100, Math.min(n, 100));
        for (int k = 0; k < x.logged(); k++) {
            due[x.step(k, 0)]--;
        }
        for (int kind = 1; kind <= 7; kind++) {
            check.due("19: needs " + kind, due[kind], 0);
            check.due("19: needs " + kind + " at the end", x.needs(kind), 0);
        }
        check.argument(x, "19: kind 0", () -> x.needs(0));
        check.argument(x, "19: kind 8", () -> x.needs(8));
    }
}
