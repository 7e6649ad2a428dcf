import java.util.ArrayList;
import java.util.List;
import java.util.TreeSet;

/**
 * The document told once more in the slowest and plainest way, to compare the program with:
 * candidates are sets, every deduction looks at everything, and solving follows the words.
 * Answers that would take more guesses than BUDGET are TOO_DEAR, and are not compared.
 */
final class PlainDesk {
    static final int TOO_DEAR = -777777;
    static final int BUDGET = 3000;

    static final class Constraint {
        int kind;
        int sum;
        List<Integer> cells = new ArrayList<>();

        Constraint copy() {
            Constraint c = new Constraint();
            c.kind = kind;
            c.sum = sum;
            c.cells.addAll(cells);
            return c;
        }
    }

    static final class Snapshot {
        List<TreeSet<Integer>> open = new ArrayList<>();
        boolean[] placed = new boolean[36];
        int[] given = new int[36];
        List<Constraint> constraints = new ArrayList<>();
        List<int[]> log = new ArrayList<>();

        Snapshot() {
            for (int c = 0; c < 36; c++) {
                open.add(all());
            }
        }

        Snapshot copy() {
            Snapshot s = new Snapshot();
            for (int c = 0; c < 36; c++) {
                s.open.set(c, new TreeSet<>(open.get(c)));
            }
            s.placed = placed.clone();
            s.given = given.clone();
            for (Constraint c : constraints) {
                s.constraints.add(c.copy());
            }
            s.log.addAll(log);
            return s;
        }

        void restart() {
            for (int c = 0; c < 36; c++) {
                open.set(c, all());
                if (given[c] != 0) {
                    open.get(c).clear();
                    open.get(c).add(given[c]);
                }
                placed[c] = false;
            }
        }
    }

    Snapshot s = new Snapshot();
    List<Snapshot> saved = new ArrayList<>();
    StringBuilder text = new StringBuilder();
    int guessCount;
    List<int[]> found = new ArrayList<>();

    static TreeSet<Integer> all() {
        TreeSet<Integer> t = new TreeSet<>();
        for (int d = 1; d <= 6; d++) {
            t.add(d);
        }
        return t;
    }

    static List<Integer> unit(int u) {
        List<Integer> cells = new ArrayList<>();
        for (int c = 0; c < 36; c++) {
            int row = c / 6;
            int column = c % 6;
            int box = 2 * (row / 2) + column / 3;
            if (u == row || u == 6 + column || u == 12 + box) {
                cells.add(c);
            }
        }
        return cells;
    }

    static final List<List<Integer>> UNITS = new ArrayList<>();

    static {
        for (int u = 0; u < 18; u++) {
            UNITS.add(unit(u));
        }
    }

    static TreeSet<Integer> peers(Snapshot s, int cell) {
        TreeSet<Integer> result = new TreeSet<>();
        for (List<Integer> unit : UNITS) {
            if (unit.contains(cell)) {
                result.addAll(unit);
            }
        }
        for (Constraint c : s.constraints) {
            if (c.kind == 0 && c.cells.size() >= 2 && c.cells.contains(cell)) {
                result.addAll(c.cells);
            }
        }
        result.remove(cell);
        return result;
    }

    static boolean dead(Snapshot s) {
        for (TreeSet<Integer> t : s.open) {
            if (t.isEmpty()) {
                return true;
            }
        }
        return false;
    }

    static boolean finished(Snapshot s) {
        for (boolean p : s.placed) {
            if (!p) {
                return false;
            }
        }
        return !dead(s);
    }

    /** Does the next deduction: kind, place and number removed; null if there is none. */
    static int[] next(Snapshot s) {
        if (dead(s)) {
            return null;
        }
        int[] r = single(s);
        r = r != null ? r : onlyPlace(s);
        r = r != null ? r : byConstraint(s, 2, 3);
        r = r != null ? r : byConstraint(s, 0, 4);
        r = r != null ? r : byConstraint(s, 1, 5);
        r = r != null ? r : locked(s);
        return r != null ? r : pair(s);
    }

    static int[] single(Snapshot s) {
        for (int c = 0; c < 36; c++) {
            if (!s.placed[c] && s.open.get(c).size() == 1) {
                s.placed[c] = true;
                int digit = s.open.get(c).first();
                int removed = 0;
                for (int p : peers(s, c)) {
                    removed += s.open.get(p).remove(digit) ? 1 : 0;
                }
                return new int[] {1, c, removed};
            }
        }
        return null;
    }

    static List<Integer> having(Snapshot s, List<Integer> cells, int digit) {
        List<Integer> result = new ArrayList<>();
        for (int c : cells) {
            if (s.open.get(c).contains(digit)) {
                result.add(c);
            }
        }
        return result;
    }

    static int[] onlyPlace(Snapshot s) {
        for (int u = 0; u < 18; u++) {
            for (int d = 1; d <= 6; d++) {
                List<Integer> cells = having(s, UNITS.get(u), d);
                if (cells.size() == 1 && s.open.get(cells.get(0)).size() > 1) {
                    TreeSet<Integer> t = s.open.get(cells.get(0));
                    int removed = t.size() - 1;
                    t.clear();
                    t.add(d);
                    return new int[] {2, u, removed};
                }
            }
        }
        return null;
    }

    static int[] byConstraint(Snapshot s, int constraintKind, int kind) {
        for (int i = 0; i < s.constraints.size(); i++) {
            Constraint c = s.constraints.get(i);
            if (c.kind == constraintKind && c.cells.size() >= 2) {
                int removed = c.kind == 2 ? thermometer(s, c) : ways(s, c);
                if (removed > 0) {
                    return new int[] {kind, i, removed};
                }
            }
        }
        return null;
    }

    static int thermometer(Snapshot s, Constraint c) {
        int removed = 0;
        boolean again = true;
        while (again) {
            again = false;
            for (int k = 0; k < c.cells.size(); k++) {
                for (int d = 1; d <= 6; d++) {
                    TreeSet<Integer> t = s.open.get(c.cells.get(k));
                    boolean bad = false;
                    if (k > 0) {
                        TreeSet<Integer> before = s.open.get(c.cells.get(k - 1));
                        bad = before.isEmpty() || d <= before.first();
                    }
                    if (k + 1 < c.cells.size()) {
                        TreeSet<Integer> behind = s.open.get(c.cells.get(k + 1));
                        bad = bad || behind.isEmpty() || d >= behind.last();
                    }
                    if (bad && t.remove(d)) {
                        removed++;
                        again = true;
                    }
                }
            }
        }
        return removed;
    }

    static int ways(Snapshot s, Constraint c) {
        int n = c.cells.size();
        boolean[][] occurs = new boolean[n][7];
        int total = 1;
        for (int k = 0; k < n; k++) {
            total *= 6;
        }
        for (int way = 0; way < total; way++) {
            int[] digits = new int[n];
            int rest = way;
            boolean good = true;
            int sum = 0;
            for (int k = 0; k < n; k++) {
                digits[k] = rest % 6 + 1;
                rest /= 6;
                sum += digits[k];
                good = good && s.open.get(c.cells.get(k)).contains(digits[k]);
            }
            if (c.kind == 0) {
                good = good && sum == c.sum;
                for (int a = 0; a < n; a++) {
                    for (int b = 0; b < a; b++) {
                        good = good && digits[a] != digits[b];
                    }
                }
            } else {
                good = good && digits[0] == sum - digits[0];
            }
            for (int k = 0; good && k < n; k++) {
                occurs[k][digits[k]] = true;
            }
        }
        int removed = 0;
        for (int k = 0; k < n; k++) {
            for (int d = 1; d <= 6; d++) {
                if (!occurs[k][d] && s.open.get(c.cells.get(k)).remove(d)) {
                    removed++;
                }
            }
        }
        return removed;
    }

    static int[] locked(Snapshot s) {
        for (int b = 0; b < 6; b++) {
            List<Integer> box = UNITS.get(12 + b);
            for (int l = 0; l < 12; l++) {
                List<Integer> line = UNITS.get(l);
                List<Integer> both = new ArrayList<>(box);
                both.retainAll(line);
                if (both.isEmpty()) {
                    continue;
                }
                for (int d = 1; d <= 6; d++) {
                    int removed = lock(s, box, line, d);
                    if (removed == 0) {
                        removed = lock(s, line, box, d);
                    }
                    if (removed > 0) {
                        return new int[] {6, b, removed};
                    }
                }
            }
        }
        return null;
    }

    static int lock(Snapshot s, List<Integer> from, List<Integer> in, int d) {
        List<Integer> cells = having(s, from, d);
        if (cells.isEmpty() || !in.containsAll(cells)) {
            return 0;
        }
        int removed = 0;
        for (int c : in) {
            if (!from.contains(c) && s.open.get(c).remove(d)) {
                removed++;
            }
        }
        return removed;
    }

    static int[] pair(Snapshot s) {
        for (int u = 0; u < 18; u++) {
            List<Integer> unit = UNITS.get(u);
            for (int a = 0; a < 6; a++) {
                for (int b = a + 1; b < 6; b++) {
                    TreeSet<Integer> one = s.open.get(unit.get(a));
                    if (one.size() != 2 || !one.equals(s.open.get(unit.get(b)))) {
                        continue;
                    }
                    int removed = 0;
                    for (int k = 0; k < 6; k++) {
                        if (k != a && k != b) {
                            int before = s.open.get(unit.get(k)).size();
                            s.open.get(unit.get(k)).removeAll(new TreeSet<>(one));
                            removed += before - s.open.get(unit.get(k)).size();
                        }
                    }
                    if (removed > 0) {
                        return new int[] {7, u, removed};
                    }
                }
            }
        }
        return null;
    }

    /** Solves in the document's order; stops at a number of solutions, or when the budget is gone. */
    private void solve(Snapshot p, int most) {
        while (next(p) != null) {
            continue;
        }
        if (dead(p)) {
            return;
        }
        if (finished(p)) {
            int[] digits = new int[36];
            for (int c = 0; c < 36; c++) {
                digits[c] = p.open.get(c).first();
            }
            found.add(digits);
            return;
        }
        int cell = -1;
        for (int c = 0; c < 36; c++) {
            int size = p.open.get(c).size();
            if (size > 1 && (cell < 0 || size < p.open.get(cell).size())) {
                cell = c;
            }
        }
        for (int d : new TreeSet<>(p.open.get(cell))) {
            if (found.size() >= most || guessCount > BUDGET) {
                return;
            }
            guessCount++;
            Snapshot copy = p.copy();
            copy.open.get(cell).clear();
            copy.open.get(cell).add(d);
            solve(copy, most);
        }
    }

    /** False if it was too dear. */
    boolean run(Snapshot start, int most) {
        guessCount = 0;
        found.clear();
        solve(start.copy(), most);
        return guessCount <= BUDGET;
    }

    void save() {
        saved.add(s.copy());
        if (saved.size() > 4) {
            saved.remove(0);
        }
    }

    int begin() {
        save();
        int n = count(2);
        s = new Snapshot();
        return n;
    }

    private static void cellIn(int cell) {
        if (cell < 0 || cell > 35) {
            throw new IndexOutOfBoundsException();
        }
    }

    private static void in(int value, int least, int greatest) {
        if (value < least || value > greatest) {
            throw new IllegalArgumentException();
        }
    }

    static int bits(TreeSet<Integer> t) {
        int b = 0;
        for (int d : t) {
            b += 1 << d;
        }
        return b;
    }

    int give(int cell, int digit) {
        cellIn(cell);
        in(digit, 1, 6);
        save();
        int before = bits(s.open.get(cell));
        boolean had = s.open.get(cell).contains(digit);
        s.open.get(cell).clear();
        if (had) {
            s.open.get(cell).add(digit);
        }
        s.given[cell] = digit;
        s.log.clear();
        return before;
    }

    int strike(int cell, int digit) {
        cellIn(cell);
        in(digit, 1, 6);
        save();
        s.log.clear();
        return s.open.get(cell).remove(digit) ? 1 : 0;
    }

    int addConstraint(int kind, int cell, int sum) {
        cellIn(cell);
        in(kind, 0, 2);
        in(sum, kind == 0 ? 1 : 0, kind == 0 ? 24 : 0);
        if (s.constraints.size() == 8) {
            throw new IllegalStateException();
        }
        save();
        s.log.clear();
        Constraint c = new Constraint();
        c.kind = kind;
        c.sum = sum;
        c.cells.add(cell);
        s.constraints.add(c);
        return s.constraints.size() - 1;
    }

    private Constraint known(int constraint) {
        if (constraint < 0 || constraint >= s.constraints.size()) {
            throw new IndexOutOfBoundsException();
        }
        return s.constraints.get(constraint);
    }

    int extend(int constraint, int cell) {
        Constraint c = known(constraint);
        cellIn(cell);
        if (c.cells.contains(cell) || c.cells.size() == (c.kind == 2 ? 6 : 4)) {
            throw new IllegalStateException();
        }
        save();
        s.log.clear();
        known(constraint).cells.add(cell);
        return c.cells.size();
    }

    int restart() {
        save();
        s.log.clear();
        s.restart();
        return count(1);
    }

    private long draws;

    private int draw(int k) {
        draws = (1103515245L * draws + 12345) % 2147483648L;
        return (int) (draws / 65536 % k);
    }

    int make(int seed, int givens) {
        in(seed, 0, 999999);
        in(givens, 0, 36);
        save();
        s = new Snapshot();
        draws = seed;
        int[] p = {1, 2, 3, 4, 5, 6};
        for (int i = 5; i >= 1; i--) {
            int j = draw(i + 1);
            int t = p[i];
            p[i] = p[j];
            p[j] = t;
        }
        int[] order = new int[36];
        for (int i = 0; i < 36; i++) {
            order[i] = i;
        }
        for (int i = 35; i >= 1; i--) {
            int j = draw(i + 1);
            int t = order[i];
            order[i] = order[j];
            order[j] = t;
        }
        for (int r = 0; r < 6; r++) {
            for (int c = 0; c < 6; c++) {
                s.given[6 * r + c] = p[(3 * (r % 2) + r / 2 + c) % 6];
            }
        }
        for (int cell : order) {
            if (count(1) <= givens) {
                break;
            }
            int digit = s.given[cell];
            s.given[cell] = 0;
            s.restart();
            if (!run(s, 2)) {
                throw new IllegalStateException("the model needs a greater budget");
            }
            if (found.size() != 1) {
                s.given[cell] = digit;
            }
        }
        s.restart();
        return count(1);
    }

    int constraint(int constraint, int what) {
        Constraint c = known(constraint);
        in(what, 0, 2);
        return what == 0 ? c.kind : what == 1 ? c.sum : c.cells.size();
    }

    int cellOf(int constraint, int place) {
        Constraint c = known(constraint);
        if (place < 0 || place >= c.cells.size()) {
            throw new IndexOutOfBoundsException();
        }
        return c.cells.get(place);
    }

    int count(int what) {
        in(what, 0, 5);
        int n = 0;
        for (int c = 0; c < 36; c++) {
            n += what == 1 && s.given[c] != 0 ? 1 : 0;
            n += what == 2 && s.placed[c] ? 1 : 0;
            n += what == 3 ? s.open.get(c).size() : 0;
        }
        if (what == 4) {
            return dead(s) ? 1 : 0;
        }
        if (what == 5) {
            return finished(s) ? 1 : 0;
        }
        return what == 0 ? s.constraints.size() : n;
    }

    int candidates(int cell) {
        cellIn(cell);
        return bits(s.open.get(cell));
    }

    int cell(int cell, int what) {
        cellIn(cell);
        in(what, 0, 2);
        if (what == 0) {
            return s.placed[cell] && !s.open.get(cell).isEmpty() ? s.open.get(cell).first() : 0;
        }
        return what == 1 ? s.given[cell] : peers(s, cell).size();
    }

    int deduce(int steps) {
        in(steps, 0, 500);
        save();
        int n = 0;
        while (n < steps) {
            int[] d = next(s);
            if (d == null) {
                break;
            }
            s.log.add(d);
            if (s.log.size() > 100) {
                s.log.remove(0);
            }
            n++;
        }
        return n;
    }

    int hint() {
        int[] d = next(s.copy());
        return d == null ? 0 : d[0];
    }

    int hintPlace() {
        int[] d = next(s.copy());
        return d == null ? -1 : d[1];
    }

    int logged() {
        return s.log.size();
    }

    int step(int index, int what) {
        if (index < 0 || index >= s.log.size()) {
            throw new IndexOutOfBoundsException();
        }
        in(what, 0, 2);
        return s.log.get(index)[what];
    }

    int needs(int kind) {
        in(kind, 1, 7);
        Snapshot copy = s.copy();
        int n = 0;
        for (int[] d = next(copy); d != null; d = next(copy)) {
            n += d[0] == kind ? 1 : 0;
        }
        return n;
    }

    int solutions(int most) {
        in(most, 1, 20);
        return run(s, most) ? found.size() : TOO_DEAR;
    }

    int guesses() {
        if (!run(s, 1)) {
            return TOO_DEAR;
        }
        return found.isEmpty() ? -1 : guessCount;
    }

    int solved(int cell) {
        cellIn(cell);
        if (!run(s, 1)) {
            return TOO_DEAR;
        }
        return found.isEmpty() ? 0 : found.get(0)[cell];
    }

    int superfluous() {
        if (!run(s, 21)) {
            return TOO_DEAR;
        }
        if (found.size() > 20) {
            return -1;
        }
        int n = 0;
        for (int c = 0; c < 36; c++) {
            for (int d : s.open.get(c)) {
                boolean occurs = false;
                for (int[] digits : found) {
                    occurs = occurs || digits[c] == d;
                }
                n += occurs ? 0 : 1;
            }
        }
        return n;
    }

    int possible(int cell, int digit) {
        cellIn(cell);
        in(digit, 1, 6);
        Snapshot copy = s.copy();
        boolean had = copy.open.get(cell).contains(digit);
        copy.open.get(cell).clear();
        if (had) {
            copy.open.get(cell).add(digit);
        }
        return run(copy, 1) ? found.size() : TOO_DEAR;
    }

    int needed() {
        int n = 0;
        for (int c = 0; c < 36; c++) {
            if (s.given[c] != 0) {
                Snapshot copy = s.copy();
                copy.given[c] = 0;
                copy.restart();
                if (!run(copy, 2)) {
                    return TOO_DEAR;
                }
                n += found.size() > 1 ? 1 : 0;
            }
        }
        return n;
    }

    int append(int value) {
        in(value, 0, 127);
        if (text.length() == 150) {
            throw new IllegalStateException();
        }
        text.append((char) value);
        return text.length();
    }

    int clearText() {
        int n = text.length();
        text.setLength(0);
        return n;
    }

    int parse() {
        Snapshot read = new Snapshot();
        int error = new PlainReader(text.toString(), read).error();
        if (error >= 0) {
            return -10 - error;
        }
        save();
        read.restart();
        s = read;
        return count(1);
    }

    int undo() {
        if (saved.isEmpty()) {
            throw new IllegalStateException();
        }
        s = saved.remove(saved.size() - 1);
        return saved.size();
    }

    long digest() {
        long h = 3041;
        h = 31 * h + text.length();
        for (int k = 0; k <= 5; k++) {
            h = 31 * h + count(k);
        }
        for (int c = 0; c < 36; c++) {
            h = 31 * h + candidates(c);
            h = 31 * h + cell(c, 0);
            h = 31 * h + cell(c, 1);
        }
        for (int i = 0; i < s.constraints.size(); i++) {
            for (int k = 0; k <= 2; k++) {
                h = 31 * h + constraint(i, k);
            }
            for (int c : s.constraints.get(i).cells) {
                h = 31 * h + c;
            }
        }
        h = 31 * h + logged();
        for (int i = 0; i < logged(); i++) {
            for (int k = 0; k <= 2; k++) {
                h = 31 * h + step(i, k);
            }
        }
        h = 31 * h + hint();
        return 31 * h + saved.size();
    }
}
