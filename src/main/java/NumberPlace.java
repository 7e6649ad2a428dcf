/**
 * A desk for number place puzzles on a grid of 6 by 6 cells with cages, arrows and thermometers.
 * Sets of cells are bits of a long (bit k is cell k), sets of digits are bits of an int (bit d is
 * the digit d).
 */
public final class NumberPlace {
    public static final int NONE = -1;

    private static final int CELLS = 36;
    private static final int SIDE = 6;
    private static final int DIGITS = 6;
    private static final int ALL_DIGITS = 126;
    private static final long ALL_CELLS = 0xFFFFFFFFFL;

    private static final int CAGE = 0;
    private static final int ARROW = 1;
    private static final int THERMOMETER = 2;
    private static final int MOST_CONSTRAINTS = 8;
    private static final int MOST_SUM = 24;

    private static final int MOST_STEPS = 500;
    private static final int MOST_SOLUTIONS = 20;
    private static final int MOST_SEED = 999999;
    private static final int MOST_SAVED = 4;

    private final State now = new State();
    private final State draft = new State();
    private final State[] saved = new State[MOST_SAVED];
    private int oldestSaved;
    private int savedCount;
    private final PuzzleText text = new PuzzleText();
    private final Position trial = new Position();
    private final Reasoner reasoner = new Reasoner();
    private final Solver solver = new Solver();
    private final Solver trialSolver = new Solver();
    private final Shuffler shuffler = new Shuffler();
    private final int[] digitOrder = new int[DIGITS];
    private final int[] cellOrder = new int[CELLS];

    public NumberPlace() {
        for (int k = 0; k < MOST_SAVED; k++) {
            saved[k] = new State();
        }
    }

    public int begin() {
        int before = Long.bitCount(now.position.placed);
        save();
        now.wipe();
        return before;
    }

    public int give(int cell, int digit) throws IndexOutOfBoundsException, IllegalArgumentException {
        checkCell(cell);
        checkDigit(digit);
        save();
        int before = now.position.digitsOf(cell);
        now.position.keepOnly(cell, digit);
        now.given[cell] = digit;
        now.log.wipe();
        return before;
    }

    public boolean strike(int cell, int digit) throws IndexOutOfBoundsException, IllegalArgumentException {
        checkCell(cell);
        checkDigit(digit);
        save();
        now.log.wipe();
        return now.position.remove(digit, 1L << cell) > 0;
    }

    public int addConstraint(int kind, int cell, int sum)
            throws IndexOutOfBoundsException, IllegalArgumentException, IllegalStateException {
        checkCell(cell);
        if (kind < CAGE || kind > THERMOMETER || sum < leastSum(kind) || sum > greatestSum(kind)) {
            throw new IllegalArgumentException("kind or sum is out of range");
        }
        if (now.rules.size >= MOST_CONSTRAINTS) {
            throw new IllegalStateException("there are 8 constraints");
        }
        save();
        now.log.wipe();
        int index = now.rules.add(kind, sum);
        now.rules.attach(index, cell);
        return index;
    }

    public int extend(int constraint, int cell) throws IndexOutOfBoundsException, IllegalStateException {
        checkConstraint(constraint);
        checkCell(cell);
        if (now.rules.has(constraint, cell) || now.rules.isFull(constraint)) {
            throw new IllegalStateException("the constraint can't take the cell");
        }
        save();
        now.log.wipe();
        now.rules.attach(constraint, cell);
        now.position.touched = ALL_CELLS;
        return now.rules.sizes[constraint];
    }

    public int restart() {
        save();
        now.log.wipe();
        now.position.beginWith(now.given);
        return now.givenCount();
    }

    public int make(int seed, int givens) throws IllegalArgumentException {
        if (seed < 0 || seed > MOST_SEED || givens < 0 || givens > CELLS) {
            throw new IllegalArgumentException("seed or givens is out of range");
        }
        save();
        now.wipe();
        shuffler.seed(seed);
        fillGrid();
        orderCells();
        int left = CELLS;
        for (int k = 0; k < CELLS && left > givens; k++) {
            int cell = cellOrder[k];
            int digit = now.given[cell];
            now.given[cell] = 0;
            beginTrial();
            if (trialSolver.countSolutions(trial, now.rules, 2) == 1) {
                left--;
            } else {
                now.given[cell] = digit;
            }
        }
        now.position.beginWith(now.given);
        return left;
    }

    public int constraint(int constraint, int what) throws IndexOutOfBoundsException, IllegalArgumentException {
        checkConstraint(constraint);
        checkWhat(what, 2);
        if (what == 0) {
            return now.rules.kinds[constraint];
        }
        return what == 1 ? now.rules.sums[constraint] : now.rules.sizes[constraint];
    }

    public int cellOf(int constraint, int place) throws IndexOutOfBoundsException {
        checkConstraint(constraint);
        if (place < 0 || place >= now.rules.sizes[constraint]) {
            throw new IndexOutOfBoundsException("no such place");
        }
        return now.rules.cellAt(constraint, place);
    }

    public int count(int what) throws IllegalArgumentException {
        checkWhat(what, 5);
        switch (what) {
            case 0:
                return now.rules.size;
            case 1:
                return now.givenCount();
            case 2:
                return Long.bitCount(now.position.placed);
            case 3:
                return now.position.candidateCount();
            case 4:
                return now.position.isDead() ? 1 : 0;
            default:
                return now.position.isFinished() ? 1 : 0;
        }
    }

    public int candidates(int cell) throws IndexOutOfBoundsException {
        checkCell(cell);
        return now.position.digitsOf(cell);
    }

    public int cell(int cell, int what) throws IndexOutOfBoundsException, IllegalArgumentException {
        checkCell(cell);
        checkWhat(what, 2);
        if (what == 0) {
            return (now.position.placed >> cell & 1) == 0 ? 0 : now.position.lowestDigitOf(cell);
        }
        return what == 1 ? now.given[cell] : Long.bitCount(now.rules.peers[cell]);
    }

    public int deduce(int steps) throws IllegalArgumentException {
        if (steps < 0 || steps > MOST_STEPS) {
            throw new IllegalArgumentException("steps is out of range");
        }
        save();
        int done = 0;
        while (done < steps && reasoner.next(now.position, now.rules) != 0) {
            now.log.add(reasoner.kind, reasoner.place, reasoner.removed);
            done++;
        }
        return done;
    }

    public int hint() {
        trial.copyFrom(now.position);
        return reasoner.next(trial, now.rules);
    }

    public int hintPlace() {
        trial.copyFrom(now.position);
        reasoner.next(trial, now.rules);
        return reasoner.place;
    }

    public int logged() {
        return now.log.size;
    }

    public int step(int index, int what) throws IndexOutOfBoundsException, IllegalArgumentException {
        if (index < 0 || index >= now.log.size) {
            throw new IndexOutOfBoundsException("no such deduction");
        }
        checkWhat(what, 2);
        return now.log.valueAt(index, what);
    }

    public int needs(int kind) throws IllegalArgumentException {
        if (kind < Reasoner.SINGLE || kind > Reasoner.PAIR) {
            throw new IllegalArgumentException("kind is out of range");
        }
        trial.copyFrom(now.position);
        int needed = 0;
        for (int n = 0; n < MOST_STEPS; n++) {
            int done = reasoner.next(trial, now.rules);
            if (done == 0) {
                break;
            }
            needed += done == kind ? 1 : 0;
        }
        return needed;
    }

    public int solutions(int most) throws IllegalArgumentException {
        if (most < 1 || most > MOST_SOLUTIONS) {
            throw new IllegalArgumentException("most is out of range");
        }
        return solver.countSolutions(now.position, now.rules, most);
    }

    public int guesses() {
        // Without a solution all guesses would be made in vain: the quicker search finds that out.
        if (solver.countSolutions(now.position, now.rules, 1) == 0) {
            return NONE;
        }
        return solver.countGuesses(now.position, now.rules);
    }

    public int solved(int cell) throws IndexOutOfBoundsException {
        checkCell(cell);
        if (solver.countSolutions(now.position, now.rules, 1) == 0) {
            return 0;
        }
        solver.countGuesses(now.position, now.rules);
        return solver.first.lowestDigitOf(cell);
    }

    public int superfluous() {
        int found = solver.countSolutions(now.position, now.rules, MOST_SOLUTIONS + 1);
        return found > MOST_SOLUTIONS ? NONE : solver.countUnseen(now.position);
    }

    public boolean possible(int cell, int digit) throws IndexOutOfBoundsException, IllegalArgumentException {
        checkCell(cell);
        checkDigit(digit);
        trial.copyFrom(now.position);
        trial.keepOnly(cell, digit);
        trialSolver.forget();
        return trialSolver.countSolutions(trial, now.rules, 1) > 0;
    }

    public int needed() {
        int result = 0;
        for (int cell = 0; cell < CELLS; cell++) {
            int digit = now.given[cell];
            if (digit != 0) {
                now.given[cell] = 0;
                beginTrial();
                result += trialSolver.countSolutions(trial, now.rules, 2) > 1 ? 1 : 0;
                now.given[cell] = digit;
            }
        }
        return result;
    }

    public int append(int value) throws IllegalArgumentException, IllegalStateException {
        if (value < 0 || value > 127) {
            throw new IllegalArgumentException("value is out of range");
        }
        if (text.length >= PuzzleText.MOST) {
            throw new IllegalStateException("the text has 150 bytes");
        }
        text.add(value);
        return text.length;
    }

    public int clearText() {
        int before = text.length;
        text.length = 0;
        return before;
    }

    public int parse() {
        int error = text.readInto(draft);
        if (error != NONE) {
            return -10 - error;
        }
        save();
        draft.position.beginWith(draft.given);
        now.copyFrom(draft);
        return now.givenCount();
    }

    public int undo() throws IllegalStateException {
        if (savedCount == 0) {
            throw new IllegalStateException("there is no saved state");
        }
        savedCount--;
        now.copyFrom(saved[(oldestSaved + savedCount) % MOST_SAVED]);
        solver.forget();
        return savedCount;
    }

    public long digest() {
        long h = 31 * 3041L + text.length;
        for (int what = 0; what <= 5; what++) {
            h = 31 * h + count(what);
        }
        for (int c = 0; c < CELLS; c++) {
            h = 31 * h + candidates(c);
            h = 31 * h + cell(c, 0);
            h = 31 * h + cell(c, 1);
        }
        h = now.log.hash(now.rules.hash(h));
        h = 31 * h + hint();
        return 31 * h + savedCount;
    }

    private static void checkCell(int cell) {
        if (cell < 0 || cell >= CELLS) {
            throw new IndexOutOfBoundsException("no such cell");
        }
    }

    private static void checkDigit(int digit) {
        if (digit < 1 || digit > DIGITS) {
            throw new IllegalArgumentException("digit is out of range");
        }
    }

    private void checkConstraint(int constraint) {
        if (constraint < 0 || constraint >= now.rules.size) {
            throw new IndexOutOfBoundsException("no such constraint");
        }
    }

    private static void checkWhat(int what, int greatest) {
        if (what < 0 || what > greatest) {
            throw new IllegalArgumentException("what is out of range");
        }
    }

    private static int leastSum(int kind) {
        return kind == CAGE ? 1 : 0;
    }

    private static int greatestSum(int kind) {
        return kind == CAGE ? MOST_SUM : 0;
    }

    /** Saves the present state; every undoable call begins with it when nothing can fail any more. */
    private void save() {
        saved[(oldestSaved + savedCount) % MOST_SAVED].copyFrom(now);
        if (savedCount < MOST_SAVED) {
            savedCount++;
        } else {
            oldestSaved = (oldestSaved + 1) % MOST_SAVED;
        }
        solver.forget();
    }

    /** Makes the trial the puzzle with the present givens, anew. */
    private void beginTrial() {
        trial.beginWith(now.given);
        trialSolver.forget();
    }

    private void fillGrid() {
        for (int k = 0; k < DIGITS; k++) {
            digitOrder[k] = k + 1;
        }
        shuffler.shuffle(digitOrder);
        for (int cell = 0; cell < CELLS; cell++) {
            int row = cell / SIDE;
            int column = cell % SIDE;
            now.given[cell] = digitOrder[(3 * (row % 2) + row / 2 + column) % DIGITS];
        }
    }

    private void orderCells() {
        for (int k = 0; k < CELLS; k++) {
            cellOrder[k] = k;
        }
        shuffler.shuffle(cellOrder);
    }

    /** The geometry of the grid, and what is asked of sets of cells. */
    private static final class Grid {
        static final int UNITS = 18;
        static final int FIRST_COLUMN = 6;
        static final int FIRST_BOX = 12;
        private static final long[] UNIT_CELLS = {
            0x3FL, 0x3FL << 6, 0x3FL << 12, 0x3FL << 18, 0x3FL << 24, 0x3FL << 30,
            0x41041041L, 0x41041041L << 1, 0x41041041L << 2,
            0x41041041L << 3, 0x41041041L << 4, 0x41041041L << 5,
            0x1C7L, 0x1C7L << 3, 0x1C7L << 12, 0x1C7L << 15, 0x1C7L << 24, 0x1C7L << 27};

        static long unit(int index) {
            return index >= 0 && index < UNITS ? UNIT_CELLS[index] : 0;
        }

        static long neighbours(int cell) {
            int row = cell / SIDE;
            int column = cell % SIDE;
            int box = 2 * (row / 2) + column / 3;
            return (unit(row) | unit(FIRST_COLUMN + column) | unit(FIRST_BOX + box)) & ~(1L << cell);
        }

        static boolean isOne(long cells) {
            return cells != 0 && (cells & cells - 1) == 0;
        }

        /** The number of the lowest cell of a set that is not empty. */
        static int lowest(long cells) {
            return Long.bitCount((cells & -cells) - 1);
        }
    }

    /** The constraints, and the peers that cages make. */
    private static final class Rules {
        private static final int ROW = 6;
        private final int[] kinds = new int[MOST_CONSTRAINTS];
        private final int[] sums = new int[MOST_CONSTRAINTS];
        private final int[] sizes = new int[MOST_CONSTRAINTS];
        private final int[] cells = new int[MOST_CONSTRAINTS * ROW];
        private final long[] areas = new long[MOST_CONSTRAINTS];
        private final long[] peers = new long[CELLS];
        private int size;

        Rules() {
            for (int cell = 0; cell < CELLS; cell++) {
                peers[cell] = Grid.neighbours(cell);
            }
        }

        void wipe() {
            size = 0;
            for (int cell = 0; cell < CELLS; cell++) {
                peers[cell] = Grid.neighbours(cell);
            }
        }

        void copyFrom(Rules other) {
            size = other.size;
            System.arraycopy(other.kinds, 0, kinds, 0, MOST_CONSTRAINTS);
            System.arraycopy(other.sums, 0, sums, 0, MOST_CONSTRAINTS);
            System.arraycopy(other.sizes, 0, sizes, 0, MOST_CONSTRAINTS);
            System.arraycopy(other.cells, 0, cells, 0, MOST_CONSTRAINTS * ROW);
            System.arraycopy(other.areas, 0, areas, 0, MOST_CONSTRAINTS);
            System.arraycopy(other.peers, 0, peers, 0, CELLS);
        }

        /** Adds a constraint without cells; NONE if there is no room. */
        int add(int kind, int sum) {
            if (size >= MOST_CONSTRAINTS) {
                return NONE;
            }
            int index = size;
            kinds[index] = kind;
            sums[index] = sum;
            sizes[index] = 0;
            areas[index] = 0;
            size++;
            return index;
        }

        void attach(int index, int cell) {
            if (index < 0 || index >= size || isFull(index)) {
                return;
            }
            cells[index * ROW + sizes[index]] = cell;
            sizes[index]++;
            areas[index] |= 1L << cell;
            if (kinds[index] == CAGE) {
                for (int place = 0; place < sizes[index]; place++) {
                    int member = cellAt(index, place);
                    peers[member] |= areas[index] & ~(1L << member);
                }
            }
        }

        boolean has(int index, int cell) {
            return (areas[index] >> cell & 1) != 0;
        }

        boolean isFull(int index) {
            return sizes[index] >= (kinds[index] == THERMOMETER ? 6 : 4);
        }

        int cellAt(int index, int place) {
            return cells[index * ROW + place];
        }

        /** A constraint with one cell has no effect. */
        boolean isActive(int index) {
            return sizes[index] >= 2;
        }

        /** The active constraints, as bits, that have one of these cells. */
        int touching(long some) {
            int result = 0;
            for (int index = 0; index < size; index++) {
                if (isActive(index) && (areas[index] & some) != 0) {
                    result |= 1 << index;
                }
            }
            return result;
        }

        /** The cells of all active constraints. */
        long area() {
            long result = 0;
            for (int index = 0; index < size; index++) {
                if (isActive(index)) {
                    result |= areas[index];
                }
            }
            return result;
        }

        long hash(long before) {
            long h = before;
            for (int index = 0; index < size; index++) {
                h = 31 * h + kinds[index];
                h = 31 * h + sums[index];
                h = 31 * h + sizes[index];
                for (int place = 0; place < sizes[index]; place++) {
                    h = 31 * h + cellAt(index, place);
                }
            }
            return h;
        }
    }

    /** The candidates of all cells, kept by digit, and the cells that are placed. */
    private static final class Position {
        private final long[] spots = new long[DIGITS + 1];
        private long placed;
        // Cells that lost a candidate since the constraints were looked at, and constraints that
        // are to be looked at: one that nothing touched has nothing new to remove.
        private long touched;
        private int stale;

        Position() {
            openAll();
        }

        private void openAll() {
            for (int digit = 1; digit <= DIGITS; digit++) {
                spots[digit] = ALL_CELLS;
            }
            placed = 0;
            touched = ALL_CELLS;
            stale = 0;
        }

        void beginWith(int[] given) {
            openAll();
            for (int cell = 0; cell < CELLS; cell++) {
                if (given[cell] != 0) {
                    keepOnly(cell, given[cell]);
                }
            }
        }

        void copyFrom(Position other) {
            System.arraycopy(other.spots, 0, spots, 0, DIGITS + 1);
            placed = other.placed;
            touched = other.touched;
            stale = other.stale;
        }

        /** Removes a digit from the candidates of cells; tells how many candidates that were. */
        int remove(int digit, long cells) {
            long hit = spots[digit] & cells;
            spots[digit] &= ~hit;
            touched |= hit;
            return Long.bitCount(hit);
        }

        int removeDigits(int digits, long cells) {
            int removed = 0;
            for (int digit = 1; digit <= DIGITS; digit++) {
                long hit = (digits >> digit & 1) != 0 ? spots[digit] & cells : 0;
                spots[digit] &= ~hit;
                touched |= hit;
                removed += Long.bitCount(hit);
            }
            return removed;
        }

        int keepOnly(int cell, int digit) {
            return removeDigits(ALL_DIGITS & ~(1 << digit), 1L << cell);
        }

        int digitsOf(int cell) {
            int digits = 0;
            for (int digit = 1; digit <= DIGITS; digit++) {
                digits |= (int) (spots[digit] >> cell & 1) << digit;
            }
            return digits;
        }

        /** The lowest candidate of a cell, 0 if it has none. */
        int lowestDigitOf(int cell) {
            for (int digit = 1; digit <= DIGITS; digit++) {
                if ((spots[digit] >> cell & 1) != 0) {
                    return digit;
                }
            }
            return 0;
        }

        int candidateCount() {
            int result = 0;
            for (int digit = 1; digit <= DIGITS; digit++) {
                result += Long.bitCount(spots[digit]);
            }
            return result;
        }

        boolean isDead() {
            return (spots[1] | spots[2] | spots[3] | spots[4] | spots[5] | spots[6]) != ALL_CELLS;
        }

        boolean isFinished() {
            return placed == ALL_CELLS && !isDead();
        }
    }

    /** The latest deductions. */
    private static final class Log {
        private static final int MOST = 100;
        private static final int ROW = 3;
        private final int[] entries = new int[MOST * ROW];
        private int oldest;
        private int size;

        void wipe() {
            oldest = 0;
            size = 0;
        }

        void copyFrom(Log other) {
            System.arraycopy(other.entries, 0, entries, 0, MOST * ROW);
            oldest = other.oldest;
            size = other.size;
        }

        void add(int kind, int place, int removed) {
            int row = (oldest + size) % MOST * ROW;
            entries[row] = kind;
            entries[row + 1] = place;
            entries[row + 2] = removed;
            if (size < MOST) {
                size++;
            } else {
                oldest = (oldest + 1) % MOST;
            }
        }

        int valueAt(int index, int what) {
            return entries[(oldest + index) % MOST * ROW + what];
        }

        long hash(long before) {
            long h = 31 * before + size;
            for (int index = 0; index < size; index++) {
                for (int what = 0; what < ROW; what++) {
                    h = 31 * h + valueAt(index, what);
                }
            }
            return h;
        }
    }

    /** All that undo brings back. */
    private static final class State {
        private final Position position = new Position();
        private final Rules rules = new Rules();
        private final int[] given = new int[CELLS];
        private final Log log = new Log();

        void wipe() {
            position.openAll();
            rules.wipe();
            for (int cell = 0; cell < CELLS; cell++) {
                given[cell] = 0;
            }
            log.wipe();
        }

        void copyFrom(State other) {
            position.copyFrom(other.position);
            rules.copyFrom(other.rules);
            System.arraycopy(other.given, 0, given, 0, CELLS);
            log.copyFrom(other.log);
        }

        int givenCount() {
            int result = 0;
            for (int cell = 0; cell < CELLS; cell++) {
                result += given[cell] != 0 ? 1 : 0;
            }
            return result;
        }
    }

    /** Finds out which candidates the cells of one constraint can keep. */
    private static final class Sieve {
        private static final int MOST = 6;
        private final int[] open = new int[MOST];
        private final int[] kept = new int[MOST];
        private int size;
        private boolean different;

        /** Removes from the position what the constraint rules out; tells how much that was. */
        int sift(Position p, Rules rules, int index) {
            size = Math.min(rules.sizes[index], MOST);
            for (int place = 0; place < size; place++) {
                open[place] = p.digitsOf(rules.cellAt(index, place));
                kept[place] = 0;
            }
            if (rules.kinds[index] == THERMOMETER) {
                ascend();
            } else if (rules.kinds[index] == CAGE) {
                different = true;
                fits(this, 0, rules.sums[index], 0);
            } else {
                addUp();
            }
            int removed = 0;
            for (int place = 0; place < size; place++) {
                removed += p.removeDigits(open[place] & ~kept[place], 1L << rules.cellAt(index, place));
            }
            return removed;
        }

        private void ascend() {
            for (int place = 0; place < size; place++) {
                kept[place] = open[place];
            }
            boolean changed = true;
            // Every round but the last removes a candidate.
            for (int round = 0; changed && round <= MOST * DIGITS; round++) {
                changed = false;
                for (int place = 0; place < size; place++) {
                    int above = place > 0 ? smallest(kept[place - 1]) : 0;
                    int below = place < size - 1 ? greatest(kept[place + 1]) : DIGITS + 1;
                    int left = kept[place] & between(above, below);
                    changed = changed || left != kept[place];
                    kept[place] = left;
                }
            }
        }

        private void addUp() {
            different = false;
            for (int total = 1; total <= DIGITS; total++) {
                if ((open[0] >> total & 1) != 0 && fits(this, 1, total, 0)) {
                    kept[0] |= 1 << total;
                }
            }
        }

        /** Keeps what the cells from a place on can be for the rest of the sum; tells if there is a way. */
        private static boolean fits(Sieve s, int place, int rest, int used) {
            if (place >= s.size || rest < 1 || rest > DIGITS * (s.size - place)) {
                return false;
            }
            int usable = s.open[place] & ~used;
            if (place == s.size - 1) {
                int last = usable & 1 << rest;
                s.kept[place] |= last;
                return last != 0;
            }
            boolean any = false;
            for (int digit = 1; digit <= DIGITS && digit < rest; digit++) {
                int bit = 1 << digit;
                if ((usable & bit) != 0 && fits(s, place + 1, rest - digit, s.different ? used | bit : 0)) {
                    s.kept[place] |= bit;
                    any = true;
                }
            }
            return any;
        }

        /** A digit above all where there is none, so that nothing is greater than it. */
        private static int smallest(int digits) {
            for (int digit = 1; digit <= DIGITS; digit++) {
                if ((digits >> digit & 1) != 0) {
                    return digit;
                }
            }
            return DIGITS + 1;
        }

        /** 0 where there is no digit, so that nothing is less than it. */
        private static int greatest(int digits) {
            for (int digit = DIGITS; digit >= 1; digit--) {
                if ((digits >> digit & 1) != 0) {
                    return digit;
                }
            }
            return 0;
        }

        private static int between(int above, int below) {
            return (1 << below) - 1 & ~((2 << above) - 1);
        }
    }

    /** Finds the next deduction of a position, does it, and keeps what it was. */
    private static final class Reasoner {
        static final int SINGLE = 1;
        static final int ONLY_PLACE = 2;
        static final int BY_THERMOMETER = 3;
        static final int BY_CAGE = 4;
        static final int BY_ARROW = 5;
        static final int LOCKED = 6;
        static final int PAIR = 7;

        private final Sieve sieve = new Sieve();
        private int kind;
        private int place;
        private int removed;
        // The cells with at least one, two and three candidates.
        private long some;
        private long several;
        private long many;

        /** The kind of the deduction that was done, 0 if none was possible. */
        int next(Position p, Rules rules) {
            note(0, NONE, 0);
            survey(p);
            if (some != ALL_CELLS) {
                return 0;
            }
            boolean done = placeSingle(p, rules) || keepOnlyPlace(p)
                    || wake(p, rules) && (askKind(p, rules, THERMOMETER, BY_THERMOMETER)
                            || askKind(p, rules, CAGE, BY_CAGE) || askKind(p, rules, ARROW, BY_ARROW))
                    || lockAnywhere(p) || splitPair(p);
            return done ? kind : 0;
        }

        private boolean note(int newKind, int newPlace, int newRemoved) {
            kind = newKind;
            place = newPlace;
            removed = newRemoved;
            return true;
        }

        private void survey(Position p) {
            some = 0;
            several = 0;
            many = 0;
            for (int digit = 1; digit <= DIGITS; digit++) {
                long cells = p.spots[digit];
                many |= several & cells;
                several |= some & cells;
                some |= cells;
            }
        }

        private boolean placeSingle(Position p, Rules rules) {
            long singles = some & ~several & ~p.placed;
            if (singles == 0) {
                return false;
            }
            int cell = Grid.lowest(singles);
            p.placed |= 1L << cell;
            return note(SINGLE, cell, p.remove(p.lowestDigitOf(cell), rules.peers[cell]));
        }

        private boolean keepOnlyPlace(Position p) {
            for (int unit = 0; unit < Grid.UNITS; unit++) {
                long cells = Grid.unit(unit);
                for (int digit = 1; digit <= DIGITS; digit++) {
                    long places = p.spots[digit] & cells;
                    if (Grid.isOne(places) && (places & several) != 0) {
                        return note(ONLY_PLACE, unit, p.keepOnly(Grid.lowest(places), digit));
                    }
                }
            }
            return false;
        }

        /** Marks the constraints that are to be looked at; tells whether there are any. */
        private static boolean wake(Position p, Rules rules) {
            p.stale |= rules.touching(p.touched);
            p.touched = 0;
            return p.stale != 0;
        }

        private boolean askKind(Position p, Rules rules, int constraintKind, int deductionKind) {
            for (int index = 0; index < rules.size; index++) {
                if ((p.stale >> index & 1) != 0 && rules.kinds[index] == constraintKind) {
                    p.stale &= ~(1 << index);
                    int gone = sieve.sift(p, rules, index);
                    if (gone > 0) {
                        return note(deductionKind, index, gone);
                    }
                }
            }
            return false;
        }

        private boolean lockAnywhere(Position p) {
            for (int box = 0; box < Grid.UNITS - Grid.FIRST_BOX; box++) {
                int row = box / 2 * 2;
                int column = Grid.FIRST_COLUMN + box % 2 * 3;
                if (lock(p, box, row) || lock(p, box, row + 1) || lock(p, box, column)
                        || lock(p, box, column + 1) || lock(p, box, column + 2)) {
                    return true;
                }
            }
            return false;
        }

        private boolean lock(Position p, int box, int line) {
            long boxCells = Grid.unit(Grid.FIRST_BOX + box);
            long lineCells = Grid.unit(line);
            for (int digit = 1; digit <= DIGITS; digit++) {
                long inBox = p.spots[digit] & boxCells;
                long inLine = p.spots[digit] & lineCells;
                long inBoth = inBox & inLine;
                // One of them lies in the other, and not the other way round as well.
                if (inBoth != 0 && inBox != inLine && (inBox == inBoth || inLine == inBoth)) {
                    return note(LOCKED, box, p.remove(digit, (inBox | inLine) & ~inBoth));
                }
            }
            return false;
        }

        private boolean splitPair(Position p) {
            long twos = several & ~many;
            for (int unit = 0; unit < Grid.UNITS; unit++) {
                long left = Grid.unit(unit) & twos;
                for (int n = Long.bitCount(left); n > 1; n--) {
                    int first = Grid.lowest(left);
                    left &= left - 1;
                    if (splitPairOf(p, unit, first, left)) {
                        return true;
                    }
                }
            }
            return false;
        }

        private boolean splitPairOf(Position p, int unit, int first, long behind) {
            int digits = p.digitsOf(first);
            long alike = behind;
            for (int digit = 1; digit <= DIGITS; digit++) {
                alike &= (digits >> digit & 1) != 0 ? p.spots[digit] : ALL_CELLS;
            }
            if (alike == 0) {
                return false;
            }
            // With a third cell alike the lowest one is the second of the pair, and the pair does something.
            long pair = 1L << first | alike & -alike;
            int gone = p.removeDigits(digits, Grid.unit(unit) & ~pair);
            return gone > 0 && note(PAIR, unit, gone);
        }
    }

    /** Looks for solutions, in the document's order of guesses or in a quicker one. */
    private static final class Solver {
        // Every guess places a cell, so no more levels than these can be reached.
        private static final int LEVELS = CELLS + 2;
        private final Reasoner reasoner = new Reasoner();
        private final Position[] levels = new Position[LEVELS];
        private final long[] seen = new long[DIGITS + 1];
        private final Position first = new Position();
        private int limit;
        private int found;
        private boolean guessesKnown;
        private int guessed;
        // atLeast[k]: the cells of the ranked position with at least k candidates.
        private final long[] atLeast = new long[DIGITS + 2];
        private long preferred;
        private long branchCells;
        private int branchDigits;

        Solver() {
            for (int level = 0; level < LEVELS; level++) {
                levels[level] = new Position();
            }
        }

        /** To be called when the next question is about another position than the last one. */
        void forget() {
            limit = 0;
            found = 0;
            guessesKnown = false;
        }

        /** Makes the guesses of the document until the first solution, and tells how many they were. */
        int countGuesses(Position start, Rules rules) {
            if (!guessesKnown) {
                guessed = 0;
                levels[0].copyFrom(start);
                solveLevel(this, rules, 0);
                guessesKnown = true;
            }
            return guessed;
        }

        private static boolean solveLevel(Solver s, Rules rules, int level) {
            Position p = s.levels[level];
            int steps = 0;
            while (steps < MOST_STEPS && s.reasoner.next(p, rules) != 0) {
                steps++;
            }
            if (p.isFinished()) {
                s.first.copyFrom(p);
                return true;
            }
            if (p.isDead() || level + 1 >= LEVELS) {
                return false;
            }
            int cell = s.cellWithFewest(p);
            int digits = p.digitsOf(cell);
            for (int digit = 1; digit <= DIGITS; digit++) {
                if ((digits >> digit & 1) != 0) {
                    s.guessed++;
                    s.levels[level + 1].copyFrom(p);
                    s.levels[level + 1].keepOnly(cell, digit);
                    if (solveLevel(s, rules, level + 1)) {
                        return true;
                    }
                }
            }
            return false;
        }

        private int cellWithFewest(Position p) {
            rank(p);
            for (int size = 2; size <= DIGITS; size++) {
                long cells = atLeast[size] & ~atLeast[size + 1];
                if (cells != 0) {
                    return Grid.lowest(cells);
                }
            }
            return 0;
        }

        /** Makes atLeast[k] the cells with at least k candidates. */
        private void rank(Position p) {
            for (int size = 1; size <= DIGITS; size++) {
                atLeast[size] = 0;
            }
            for (int digit = 1; digit <= DIGITS; digit++) {
                long cells = p.spots[digit];
                for (int size = DIGITS; size > 1; size--) {
                    atLeast[size] |= atLeast[size - 1] & cells;
                }
                atLeast[1] |= cells;
            }
        }

        /**
         * Counts solutions, unless they were counted far enough before. Which guesses are made has
         * no influence on their number, so these are such that a contradiction shows early.
         */
        int countSolutions(Position start, Rules rules, int most) {
            boolean allFound = found < limit;
            if (!allFound && limit < most) {
                limit = most;
                found = 0;
                for (int digit = 1; digit <= DIGITS; digit++) {
                    seen[digit] = 0;
                }
                preferred = rules.area();
                levels[0].copyFrom(start);
                countLevel(this, rules, 0);
            }
            return Math.min(found, most);
        }

        private static void countLevel(Solver s, Rules rules, int level) {
            Position p = s.levels[level];
            int steps = 0;
            while (steps < MOST_STEPS && s.reasoner.next(p, rules) != 0) {
                steps++;
            }
            if (p.isFinished()) {
                s.noteSolution(p);
                return;
            }
            if (p.isDead() || level + 1 >= LEVELS || !s.chooseBranch(p)) {
                return;
            }
            long cells = s.branchCells;
            int digits = s.branchDigits;
            for (int digit = 1; digit <= DIGITS; digit++) {
                long left = (digits >> digit & 1) != 0 ? cells & p.spots[digit] : 0;
                for (int n = Long.bitCount(left); n > 0 && s.found < s.limit; n--) {
                    s.levels[level + 1].copyFrom(p);
                    s.levels[level + 1].keepOnly(Grid.lowest(left), digit);
                    left &= left - 1;
                    countLevel(s, rules, level + 1);
                }
            }
        }

        private void noteSolution(Position p) {
            found++;
            for (int digit = 1; digit <= DIGITS; digit++) {
                seen[digit] |= p.spots[digit];
            }
        }

        /**
         * Chooses the fewest guesses of which just one is right: the digits of a cell, or the places
         * of a digit in a unit. False if a digit has no place.
         */
        private boolean chooseBranch(Position p) {
            int best = chooseCell(p);
            for (int unit = 0; unit < Grid.UNITS; unit++) {
                for (int digit = 1; digit <= DIGITS; digit++) {
                    long places = p.spots[digit] & Grid.unit(unit);
                    if (places == 0) {
                        return false;
                    }
                    int rating = rate(Long.bitCount(places), places);
                    if (rating < best && !Grid.isOne(places)) {
                        best = rating;
                        branchCells = places;
                        branchDigits = 1 << digit;
                    }
                }
            }
            return true;
        }

        private int chooseCell(Position p) {
            rank(p);
            int best = rate(DIGITS + 1, 0);
            for (int size = 2; size <= DIGITS; size++) {
                long cells = atLeast[size] & ~atLeast[size + 1];
                long liked = cells & preferred;
                int rating = rate(size, liked);
                if (cells != 0 && rating < best) {
                    best = rating;
                    branchCells = liked != 0 ? liked & -liked : cells & -cells;
                    branchDigits = ALL_DIGITS;
                }
            }
            return best;
        }

        /** A guess outside the constraints counts double: contradictions mostly come from within. */
        private int rate(int ways, long cells) {
            return (cells & preferred) == 0 ? 2 * ways : ways;
        }

        /** The candidates of a position that were in none of the counted solutions. */
        int countUnseen(Position p) {
            int result = 0;
            for (int digit = 1; digit <= DIGITS; digit++) {
                result += Long.bitCount(p.spots[digit] & ~seen[digit]);
            }
            return result;
        }
    }

    /** The document's drawing of numbers. */
    private static final class Shuffler {
        private static final long MODULUS = 2147483648L;
        private long state;

        void seed(int seed) {
            state = seed;
        }

        void shuffle(int[] places) {
            for (int k = places.length - 1; k > 0; k--) {
                int other = draw(k + 1);
                int value = places[k];
                places[k] = places[other];
                places[other] = value;
            }
        }

        private int draw(int choices) {
            state = (1103515245L * state + 12345L) % MODULUS;
            return choices < 1 ? 0 : (int) (state / 65536L % choices);
        }
    }

    /** The puzzle text and its reading. */
    private static final class PuzzleText {
        static final int MOST = 150;
        private final int[] bytes = new int[MOST];
        private int length;
        private int at;
        private int error;

        void add(int value) {
            if (length < MOST) {
                bytes[length] = value;
                length++;
            }
        }

        /** Reads the whole text; the position of the syntax error, NONE if there is none. */
        int readInto(State state) {
            state.wipe();
            at = 0;
            error = NONE;
            readGivens(state.given);
            // A ninth constraint is an error, so no more than these can be read.
            for (int n = 0; n <= MOST_CONSTRAINTS && error == NONE && at < length; n++) {
                readConstraint(state.rules);
            }
            return error;
        }

        private void readGivens(int[] given) {
            for (int cell = 0; cell < CELLS; cell++) {
                int value = here();
                if (value >= '1' && value <= '6') {
                    given[cell] = value - '0';
                } else if (value != '.') {
                    error = at;
                    return;
                }
                at++;
            }
        }

        private void readConstraint(Rules rules) {
            if (here() != ';') {
                error = at;
                return;
            }
            at++;
            int kind = kindOf(here());
            if (kind == NONE || rules.size >= MOST_CONSTRAINTS) {
                error = at;
                return;
            }
            at++;
            int sum = kind == CAGE ? readNumber(1, MOST_SUM) : 0;
            if (error == NONE) {
                readCells(rules, rules.add(kind, sum));
            }
        }

        private void readCells(Rules rules, int index) {
            for (int place = 0; place < Rules.ROW && here() == ':' && !rules.isFull(index); place++) {
                at++;
                int start = at;
                int cell = readNumber(0, CELLS - 1);
                if (error != NONE) {
                    return;
                }
                if (rules.has(index, cell)) {
                    error = start;
                    return;
                }
                rules.attach(index, cell);
            }
            boolean canEnd = rules.isActive(index) && (at >= length || here() == ';');
            if (!canEnd) {
                error = at;
            }
        }

        /** Reads a number of one or two digits; what it answers counts only if there is no error. */
        private int readNumber(int least, int greatest) {
            int start = at;
            int value = 0;
            while (at < start + 2 && isDigit(here())) {
                value = 10 * value + here() - '0';
                at++;
            }
            if (at == start || isDigit(here())) {
                error = at;
            } else if (value < least || value > greatest) {
                error = start;
            }
            return value;
        }

        /** The byte that is read next, NONE at the end of the text. */
        private int here() {
            return at < length ? bytes[at] : NONE;
        }

        private static boolean isDigit(int value) {
            return value >= '0' && value <= '9';
        }

        private static int kindOf(int letter) {
            switch (letter) {
                case 'k':
                    return CAGE;
                case 'a':
                    return ARROW;
                case 't':
                    return THERMOMETER;
                default:
                    return NONE;
            }
        }
    }
}
