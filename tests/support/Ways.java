/** All ways to give the cells of a cage or an arrow digits, walked through one by one. */
final class Ways {
    /** The candidates of each cell that occur in a way. */
    static int[] keep(int kind, int sum, int[] open) {
        int[] kept = new int[open.length];
        int total = 1;
        for (int k = 0; k < open.length; k++) {
            total *= 6;
        }
        int[] digits = new int[open.length];
        for (int way = 0; way < total; way++) {
            int rest = way;
            for (int k = 0; k < open.length; k++) {
                digits[k] = rest % 6 + 1;
                rest /= 6;
            }
            if (isWay(kind, sum, open, digits)) {
                for (int k = 0; k < open.length; k++) {
                    kept[k] |= 1 << digits[k];
                }
            }
        }
        return kept;
    }

    private static boolean isWay(int kind, int sum, int[] open, int[] digits) {
        int all = 0;
        int added = 0;
        for (int k = 0; k < open.length; k++) {
            if ((open[k] >> digits[k] & 1) == 0) {
                return false;
            }
            all |= 1 << digits[k];
            added += digits[k];
        }
        if (kind == 0) {
            return added == sum && Integer.bitCount(all) == open.length;
        }
        return added == 2 * digits[0];
    }
}
