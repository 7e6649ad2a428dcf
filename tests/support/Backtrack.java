/** Counts the solutions of a position by trying all digits cell by cell, without any deduction. */
final class Backtrack {
    private final int[] open = new int[36];
    private final int[][] cells;
    private final int[] kinds;
    private final int[] sums;
    private final int[] digits = new int[36];
    private final int most;
    final int[] seen = new int[36];
    int found = 0;

    Backtrack(NumberPlace x, int most) {
        this.most = most;
        int n = x.count(0);
        cells = new int[n][];
        kinds = new int[n];
        sums = new int[n];
        for (int c = 0; c < 36; c++) {
            open[c] = x.candidates(c);
        }
        for (int i = 0; i < n; i++) {
            kinds[i] = x.constraint(i, 0);
            sums[i] = x.constraint(i, 1);
            cells[i] = new int[x.constraint(i, 2)];
            for (int k = 0; k < cells[i].length; k++) {
                cells[i][k] = x.cellOf(i, k);
            }
        }
        fill(0);
    }

    private void fill(int cell) {
        if (found >= most) {
            return;
        }
        if (cell == 36) {
            found++;
            for (int c = 0; c < 36; c++) {
                seen[c] |= 1 << digits[c];
            }
            return;
        }
        for (int d = 1; d <= 6; d++) {
            if ((open[cell] >> d & 1) != 0) {
                digits[cell] = d;
                if (fits(cell)) {
                    fill(cell + 1);
                }
                digits[cell] = 0;
            }
        }
    }

    private boolean fits(int cell) {
        for (int c = 0; c < cell; c++) {
            boolean peer = c / 6 == cell / 6 || c % 6 == cell % 6
                    || c / 12 == cell / 12 && c % 6 / 3 == cell % 6 / 3;
            if (peer && digits[c] == digits[cell]) {
                return false;
            }
        }
        for (int i = 0; i < cells.length; i++) {
            if (cells[i].length > 1 && !holds(i)) {
                return false;
            }
        }
        return true;
    }

    /** Whether a constraint is kept, as far as its cells are filled. */
    private boolean holds(int i) {
        int sum = 0;
        int last = 0;
        boolean full = true;
        int used = 0;
        for (int c : cells[i]) {
            int d = digits[c];
            full = full && d != 0;
            sum += d;
            if (d != 0 && kinds[i] == 0 && (used >> d & 1) != 0) {
                return false;
            }
            if (d != 0 && kinds[i] == 2 && d <= last) {
                return false;
            }
            used |= 1 << d;
            last = d != 0 ? d : last;
        }
        if (kinds[i] == 0) {
            return full ? sum == sums[i] : sum < sums[i];
        }
        return kinds[i] != 1 || !full || sum == 2 * digits[cells[i][0]];
    }
}
