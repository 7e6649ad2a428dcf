/** Promises 1 to 13: the empty desk, what changes the puzzle, and what tells about it. */
public final class PuzzleTest {
    private static final Check check = new Check();

    public static void main(String[] args) {
        Watch.begin("PuzzleTest");
        newObject();
        begin();
        give();
        strike();
        addConstraint();
        extend();
        restart();
        make();
        makeRefusals();
        constraint();
        count();
        cells();
        check.end();
    }

    private static void newObject() {
        NumberPlace x = new NumberPlace();
        check.due("1: NONE", NumberPlace.NONE, -1);
        int[] counts = {0, 0, 0, 216, 0, 0};
        long h = 31 * 3041L;
        for (int what = 0; what < 6; what++) {
            check.due("1: count " + what, x.count(what), counts[what]);
            h = 31 * h + counts[what];
        }
        for (int c = 0; c < 36; c++) {
            check.due("1: candidates " + c, x.candidates(c), 126);
            check.due("1: digit " + c, x.cell(c, 0), 0);
            check.due("1: given " + c, x.cell(c, 1), 0);
            check.due("1: peers " + c, x.cell(c, 2), 12);
            h = 31 * 31 * (31 * h + 126);
        }
        check.due("1: logged", x.logged(), 0);
        check.due("1: hint", x.hint(), 0);
        check.due("1: hintPlace", x.hintPlace(), -1);
        check.due("1: digest", x.digest(), 31 * 31 * 31 * h);
        check.due("1: text", x.clearText(), 0);
        check.state(x, "1: undo of nothing", () -> x.undo());
    }

    private static void begin() {
        NumberPlace x = Check.desk("12", ";k5:1:20;t:3:4");
        x.deduce(2);
        long before = x.digest();
        check.due("2: begin", x.begin(), 2);
        int[] counts = {0, 0, 0, 216, 0, 0};
        for (int what = 0; what < 6; what++) {
            check.due("2: count " + what, x.count(what), counts[what]);
        }
        check.due("2: logged", x.logged(), 0);
        check.due("2: given", x.cell(0, 1), 0);
        check.due("2: peers", x.cell(1, 2), 12);
        check.due("2: again", x.begin(), 0);
        check.due("2: undo of it", x.undo(), 3);
        check.due("2: undo of the first", x.undo(), 2);
        check.due("2: digest", x.digest(), before);
        check.due("2: the text stays", x.clearText(), 36 + 14);
    }

    private static void give() {
        NumberPlace x = new NumberPlace();
        check.due("3: give", x.give(7, 3), 126);
        check.due("3: candidates", x.candidates(7), 8);
        check.due("3: given", x.cell(7, 1), 3);
        check.due("3: not placed", x.cell(7, 0), 0);
        check.due("3: peers keep it", x.candidates(6), 126);
        check.due("3: again", x.give(7, 3), 8);
        x.deduce(1);
        check.due("3: placed", x.cell(7, 0), 3);
        check.due("3: a digit that it has not", x.give(6, 3), 126 - 8);
        check.due("3: dead", x.count(4), 1);
        check.due("3: none", x.candidates(6), 0);
        check.due("3: given all the same", x.cell(6, 1), 3);
        check.due("3: log is empty", x.logged(), 0);
        check.due("3: stays placed", x.cell(7, 0), 3);
        check.due("3: undo", x.undo(), 3);
        check.due("3: log is back", x.logged(), 1);
        check.due("3: not given any more", x.cell(6, 1), 0);
        check.index(x, "3: cell 36", () -> x.give(36, 7));
        check.index(x, "3: cell -1", () -> x.give(-1, 1));
        check.argument(x, "3: digit 0", () -> x.give(0, 0));
        check.argument(x, "3: digit 7", () -> x.give(35, 7));
        check.argument(x, "3: digit 33", () -> x.give(35, 33));
    }

    private static void strike() {
        NumberPlace x = new NumberPlace();
        x.give(0, 1);
        x.deduce(1);
        check.due("4: strike", x.strike(35, 6), true);
        check.due("4: candidates", x.candidates(35), 62);
        check.due("4: log is empty", x.logged(), 0);
        check.due("4: strike again", x.strike(35, 6), false);
        check.due("4: undo of nothing changed", x.undo(), 3);
        check.due("4: undo", x.undo(), 2);
        check.due("4: back", x.candidates(35), 126);
        check.due("4: log is back", x.logged(), 1);
        check.due("4: the placed digit", x.strike(0, 1), true);
        check.due("4: has no digit", x.cell(0, 0), 0);
        check.due("4: stays given", x.cell(0, 1), 1);
        check.due("4: stays placed", x.count(2), 1);
        check.due("4: dead", x.count(4), 1);
        check.index(x, "4: cell -1", () -> x.strike(-1, 0) ? 1 : 0);
        check.index(x, "4: cell 36", () -> x.strike(36, 1) ? 1 : 0);
        check.argument(x, "4: digit 0", () -> x.strike(0, 0) ? 1 : 0);
        check.argument(x, "4: digit 7", () -> x.strike(0, 7) ? 1 : 0);
    }

    private static void addConstraint() {
        NumberPlace x = new NumberPlace();
        check.due("5: cage", x.addConstraint(0, 5, 1), 0);
        check.due("5: cage of 24", x.addConstraint(0, 5, 24), 1);
        check.due("5: arrow", x.addConstraint(1, 0, 0), 2);
        check.due("5: thermometer", x.addConstraint(2, 35, 0), 3);
        check.due("5: no effect", x.hint(), 0);
        check.due("5: no effect on solutions", x.solutions(20), 20);
        check.due("5: no peers", x.cell(5, 2), 12);
        check.due("5: undo", x.undo(), 3);
        check.due("5: number", x.count(0), 3);
        check.index(x, "5: cell 36 first", () -> x.addConstraint(3, 36, 0));
        check.index(x, "5: cell -1", () -> x.addConstraint(0, -1, 5));
        check.argument(x, "5: kind 3", () -> x.addConstraint(3, 0, 0));
        check.argument(x, "5: kind -1", () -> x.addConstraint(-1, 0, 0));
        check.argument(x, "5: cage of 0", () -> x.addConstraint(0, 0, 0));
        check.argument(x, "5: cage of 25", () -> x.addConstraint(0, 0, 25));
        check.argument(x, "5: arrow of 1", () -> x.addConstraint(1, 0, 1));
        check.argument(x, "5: arrow of -1", () -> x.addConstraint(1, 0, -1));
        check.argument(x, "5: thermometer of 5", () -> x.addConstraint(2, 0, 5));
        x.give(0, 1);
        x.deduce(1);
        for (int k = 3; k < 8; k++) {
            check.due("5: constraint " + k, x.addConstraint(2, 0, 0), k);
            check.due("5: log is empty", x.logged(), 0);
        }
        check.state(x, "5: a ninth", () -> x.addConstraint(2, 0, 0));
        check.argument(x, "5: a ninth of kind 3", () -> x.addConstraint(3, 0, 0));
        check.index(x, "5: a ninth nowhere", () -> x.addConstraint(2, 36, 0));
    }

    private static void extend() {
        NumberPlace x = new NumberPlace();
        check.index(x, "6: no constraint", () -> x.extend(0, 1));
        x.addConstraint(0, 0, 14);
        x.addConstraint(1, 1, 0);
        x.addConstraint(2, 2, 0);
        check.due("6: far cell", x.extend(0, 35), 2);
        check.due("6: peers of 0", x.cell(0, 2), 13);
        check.due("6: peers of 35", x.cell(35, 2), 13);
        check.due("6: near cell", x.extend(0, 1), 3);
        check.due("6: peers of 1", x.cell(1, 2), 13);
        check.due("6: peers of 0 again", x.cell(0, 2), 13);
        check.due("6: fourth", x.extend(0, 21), 4);
        check.due("6: peers of 35 again", x.cell(35, 2), 15);
        check.state(x, "6: fifth of a cage", () -> x.extend(0, 2));
        check.due("6: arrow", x.extend(1, 2) + x.extend(1, 3) + x.extend(1, 4), 9);
        check.due("6: an arrow makes no peers", x.cell(2, 2), 12);
        check.state(x, "6: fifth of an arrow", () -> x.extend(1, 5));
        check.state(x, "6: the cell that it has", () -> x.extend(2, 2));
        for (int k = 3; k < 8; k++) {
            check.due("6: thermometer", x.extend(2, k), k - 1);
        }
        check.state(x, "6: seventh", () -> x.extend(2, 8));
        check.due("6: undo", x.undo(), 3);
        check.due("6: five again", x.constraint(2, 2), 5);
        check.due("6: and six", x.extend(2, 20), 6);
        check.due("6: last cell", x.cellOf(2, 5), 20);
        check.index(x, "6: constraint 3", () -> x.extend(3, 1));
        check.index(x, "6: constraint -1", () -> x.extend(-1, 1));
        check.index(x, "6: cell 36 of a full one", () -> x.extend(0, 36));
        check.index(x, "6: cell -1", () -> x.extend(2, -1));
        x.begin();
        check.due("6: peers without cages", x.cell(35, 2), 12);
        x.undo();
        check.due("6: peers with cages", x.cell(35, 2), 15);
        NumberPlace y = Check.desk("1", ";t:30:31");
        y.deduce(3);
        check.due("6: logged before", y.logged(), 2);
        y.extend(0, 32);
        check.due("6: log is empty", y.logged(), 0);
        check.due("6: the new cell counts", y.hint(), 3);
    }

    private static void restart() {
        NumberPlace x = Check.desk("1.....2", ";k3:20:21");
        x.give(35, 5);
        x.strike(30, 1);
        x.deduce(500);
        check.due("7: restart", x.restart(), 3);
        check.due("7: none is placed", x.count(2), 0);
        check.due("7: candidates of all", x.count(3), 33 * 6 + 3);
        check.due("7: given", x.candidates(0) + x.candidates(6) + x.candidates(35), 2 + 4 + 32);
        check.due("7: struck ones are back", x.candidates(30), 126);
        check.due("7: constraints stay", x.count(0), 1);
        check.due("7: log is empty", x.logged(), 0);
        check.due("7: undo", x.undo(), 3);
        check.due("7: log is back", x.logged() > 0, true);
        NumberPlace y = new NumberPlace();
        y.give(0, 1);
        y.give(0, 2);
        check.due("7: had no candidate", y.candidates(0), 0);
        check.due("7: one given", y.restart(), 1);
        check.due("7: the digit that was given last", y.candidates(0), 4);
        check.due("7: empty", new NumberPlace().restart(), 0);
    }

    /** The draws as the document tells them. */
    private static long s;

    private static int draw(int k) {
        s = (1103515245L * s + 12345) % 2147483648L;
        return (int) (s / 65536 % k);
    }

    private static void make() {
        int[] seeds = {0, 1, 7, 4711, 65536, 999999};
        for (int seed : seeds) {
            NumberPlace x = Check.desk("1", ";k3:20:21");
            check.due("8: all givens of " + seed, x.make(seed, 36), 36);
            check.due("8: no constraints", x.count(0), 0);
            check.due("8: log is empty", x.logged(), 0);
            check.due("8: peers", x.cell(20, 2), 12);
            s = seed;
            int[] p = {1, 2, 3, 4, 5, 6};
            for (int i = 5; i >= 1; i--) {
                int j = draw(i + 1);
                int t = p[i];
                p[i] = p[j];
                p[j] = t;
            }
            for (int c = 0; c < 36; c++) {
                int digit = p[(3 * (c / 6 % 2) + c / 12 + c % 6) % 6];
                check.due("8: digit of " + c, x.cell(c, 1), digit);
                check.due("8: candidates of " + c, x.candidates(c), 1 << digit);
            }
            int[] order = new int[36];
            for (int i = 0; i < 36; i++) {
                order[i] = i;
            }
            for (int i = 35; i >= 1; i--) {
                int j = draw(i + 1);
                int t = order[i];
                order[i] = order[j];
                order[j] = t;
            }
            x.make(seed, 35);
            check.due("8: the first in the order is taken", x.cell(order[0], 1), 0);
            check.due("8: 35", x.count(1), 35);
            int left = x.make(seed, 0);
            check.due("8: fewest", left, x.count(1));
            check.due("8: one solution", x.solutions(20), 1);
            check.due("8: every given is needed", x.needed(), left);
            check.due("8: nothing is placed", x.count(2), 0);
            check.due("8: candidates", x.count(3), left + 6 * (36 - left));
            check.due("8: at least so many", x.make(seed, left + 3), left + 3);
            check.due("8: undo", x.undo(), 3);
            check.due("8: as before", x.count(1), left);
        }
        check.due("8: seed 1", new NumberPlace().make(1, 0), 10);
        check.due("8: seed 2 of 20", new NumberPlace().make(2, 20), 20);
    }

    private static void makeRefusals() {
        NumberPlace x = new NumberPlace();
        x.give(0, 1);
        check.argument(x, "8: seed -1", () -> x.make(-1, 5));
        check.argument(x, "8: seed 1000000", () -> x.make(1000000, 5));
        check.argument(x, "8: givens -1", () -> x.make(5, -1));
        check.argument(x, "8: givens 37", () -> x.make(5, 37));
    }

    private static void constraint() {
        NumberPlace x = Check.desk("", ";k11:0:7:14;a:5:4;t:30:24:18:12:6:1");
        int[][] due = {{0, 11, 3}, {1, 0, 2}, {2, 0, 6}};
        int[][] cells = {{0, 7, 14}, {5, 4}, {30, 24, 18, 12, 6, 1}};
        for (int i = 0; i < 3; i++) {
            int index = i;
            for (int what = 0; what < 3; what++) {
                check.due("9: constraint " + i + ", " + what, x.constraint(i, what), due[i][what]);
            }
            for (int place = 0; place < cells[i].length; place++) {
                check.due("10: cellOf " + i + ", " + place, x.cellOf(i, place), cells[i][place]);
            }
            check.index(x, "10: place behind the last", () -> x.cellOf(index, cells[index].length));
            check.index(x, "10: place -1", () -> x.cellOf(index, -1));
        }
        check.index(x, "9: constraint 3", () -> x.constraint(3, 9));
        check.index(x, "9: constraint -1", () -> x.constraint(-1, 0));
        check.argument(x, "9: what 3", () -> x.constraint(2, 3));
        check.argument(x, "9: what -1", () -> x.constraint(0, -1));
        check.index(x, "10: constraint 3", () -> x.cellOf(3, 0));
        check.index(x, "10: constraint -1", () -> x.cellOf(-1, 0));
    }

    private static void count() {
        NumberPlace x = Check.desk("123456", ";a:30:31");
        int[] counts = {1, 6, 0, 6 + 180, 0, 0};
        for (int what = 0; what < 6; what++) {
            check.due("11: count " + what, x.count(what), counts[what]);
        }
        x.deduce(1);
        check.due("11: placed", x.count(2), 1);
        check.due("11: fewer candidates", x.count(3), 186 - 7);
        x.strike(0, 1);
        check.due("11: placed though empty", x.count(2), 1);
        check.due("11: dead", x.count(4), 1);
        check.argument(x, "11: what 6", () -> x.count(6));
        check.argument(x, "11: what -1", () -> x.count(-1));
        NumberPlace y = new NumberPlace();
        y.make(3, 36);
        y.deduce(35);
        check.due("11: one is not placed", y.count(5), 0);
        y.deduce(1);
        check.due("11: solved", y.count(5), 1);
        y.strike(20, y.cell(20, 0));
        check.due("11: all placed, but dead", y.count(5), 0);
        check.due("11: all placed", y.count(2), 36);
    }

    private static void cells() {
        NumberPlace x = Check.desk("1", ";k10:0:1:8:35;a:12:13");
        x.strike(1, 6);
        check.due("12: given", x.candidates(0), 2);
        check.due("12: struck", x.candidates(1), 62);
        check.due("12: open", x.candidates(35), 126);
        check.due("13: not placed", x.cell(0, 0), 0);
        x.deduce(1);
        check.due("13: placed", x.cell(0, 0), 1);
        check.due("13: given", x.cell(0, 1), 1);
        check.due("13: not given", x.cell(1, 1), 0);
        check.due("13: peers of 0", x.cell(0, 2), 13);
        check.due("13: peers of 8", x.cell(8, 2), 13);
        check.due("13: peers of 35", x.cell(35, 2), 15);
        check.due("13: peers of 12", x.cell(12, 2), 12);
        check.due("12: a peer by the cage", x.candidates(35), 124);
        check.index(x, "12: cell 36", () -> x.candidates(36));
        check.index(x, "12: cell -1", () -> x.candidates(-1));
        check.index(x, "13: cell 36", () -> x.cell(36, 3));
        check.index(x, "13: cell -1", () -> x.cell(-1, 0));
        check.argument(x, "13: what 3", () -> x.cell(0, 3));
        check.argument(x, "13: what -1", () -> x.cell(0, -1));
    }
}
