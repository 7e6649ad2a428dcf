/** Desks in states that tests begin with. */
final class Desks {
    static final String DOTS = "....................................";

    /** With a text, givens, constraints of every kind, struck cells, a log and four saved states. */
    static NumberPlace busy() {
        NumberPlace x = Check.desk("12....3", ";k8:20:21:28;t:30:31;a:2:15");
        x.strike(35, 1);
        x.give(10, 4);
        x.addConstraint(0, 27, 5);
        x.extend(3, 28);
        x.strike(34, 2);
        x.deduce(4);
        return x;
    }

    /** Eight constraints, a cage and an arrow of 4 cells and a thermometer of 6 among them, and 150 bytes. */
    static NumberPlace full() {
        NumberPlace x = new NumberPlace();
        Check.write(x, DOTS + ";k14:0:1:6:7;a:12:13:14:15");
        while (x.append(' ') < 150) {
            continue;
        }
        x.addConstraint(0, 0, 14);
        x.addConstraint(1, 12, 0);
        x.addConstraint(2, 35, 0);
        int[][] more = {{1, 6, 21}, {13, 14, 15}, {34, 33, 32, 31, 30}};
        for (int i = 0; i < 3; i++) {
            for (int cell : more[i]) {
                x.extend(i, cell);
            }
        }
        for (int k = 3; k < 8; k++) {
            x.addConstraint(k % 3, 8 + k, k % 3 == 0 ? 7 : 0);
        }
        x.deduce(2);
        return x;
    }

    /** A cell has no candidates; others could be placed. */
    static NumberPlace dead() {
        NumberPlace x = Check.desk("1.2", ";t:30:31");
        x.deduce(1);
        Check.strikeAll(x, 20, 1, 2, 3, 4, 5, 6);
        return x;
    }

    /** All cells are placed. */
    static NumberPlace solved() {
        NumberPlace x = new NumberPlace();
        x.make(3, 36);
        x.deduce(500);
        return x;
    }
}
