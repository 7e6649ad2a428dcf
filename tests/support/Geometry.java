/** Units by tables of their own, not by the program's arithmetic. */
final class Geometry {
    private static final String[] BOXES = {"000111", "000111", "222333", "222333", "444555", "444555"};

    /** The six cells of a unit, ascending: rows are 0 to 5, columns 6 to 11, boxes 12 to 17. */
    static int[] unit(int unit) {
        int[] cells = new int[6];
        int n = 0;
        for (int row = 0; row < 6; row++) {
            for (int column = 0; column < 6; column++) {
                int box = BOXES[row].charAt(column) - '0';
                if (unit == row || unit == 6 + column || unit == 12 + box) {
                    cells[n++] = 6 * row + column;
                }
            }
        }
        return cells;
    }

    /** Whether two cells are in one unit. */
    static boolean share(int one, int other) {
        for (int unit = 0; unit < 18; unit++) {
            boolean hasOne = false;
            boolean hasOther = false;
            for (int cell : unit(unit)) {
                hasOne = hasOne || cell == one;
                hasOther = hasOther || cell == other;
            }
            if (hasOne && hasOther) {
                return true;
            }
        }
        return false;
    }
}
