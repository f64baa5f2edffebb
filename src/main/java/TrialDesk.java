import java.util.Arrays;

/** A desk for plans of trials. The words in capitals in the comments are those of the document. */
public final class TrialDesk {
    public static final int NONE = -1;

    private static final int MOST_FACTORS = 6;
    private static final int FIRST_FACTORS = 3;
    private static final int MOST_SETTINGS = 64;
    private static final int MOST_TERMS = 5;
    private static final int MOST_CELLS = 15;
    private static final int MOST_KINDS = 16;
    private static final int MOST_NUMBER = 9;
    private static final int MOST_TIMES = 9;
    private static final int MOST_TRIALS = 40;
    private static final int MOST_PLANS = 20000;
    private static final int MOST_WORDS = 4;
    private static final int MOST_PRODUCTS = 16;
    private static final int MOST_CHAINED = 12;
    private static final int MOST_CHAIN_STATES = 49152;
    private static final int MOST_SEEN = 60;
    private static final int MOST_READING = 1000;
    private static final int MOST_KEPT = 8;
    private static final int UPPER = 0;
    private static final int LOWER = 1;
    private static final int WHERE = 2;
    private static final int NO_CELL = -1000;
    private static final int NO_WEIGHT = NONE - 999999;
    private static final int FIRST_TERM_ASKED = 10;
    private static final int FIRST_SETTING_ASKED = 100;
    // Euclid's way needs at most 92 steps for two longs
    private static final int MOST_EUCLID_STEPS = 100;

    private final Desk now;
    private final History history;
    private final Grid grid;
    private final Grid trial;
    private final PlanSearch planSearch;
    private final PartSearch partSearch;
    private final ChainSearch chainSearch;
    private final long[] sum;
    private final long[] line;
    private final int[] kinds;
    private final long[] swapWorths;

    public TrialDesk() {
        now = new Desk();
        history = new History();
        grid = new Grid();
        trial = new Grid();
        planSearch = new PlanSearch();
        partSearch = new PartSearch();
        chainSearch = new ChainSearch();
        sum = new long[MOST_TERMS];
        line = new long[MOST_TERMS];
        kinds = new int[MOST_SETTINGS];
        swapWorths = new long[MOST_KINDS * MOST_KINDS];
    }

    // ---- FACTORS and THE MODEL

    public boolean factors(int k) {
        if (k < 1 || k > MOST_FACTORS) {
            return false;
        }
        history.keep(now);
        now.restart(k);
        return true;
    }

    public int term(int t) {
        if (!now.hasNumber(t) || now.hasTerm(t) || now.termCount >= MOST_TERMS) {
            return NONE;
        }
        history.keep(now);
        now.terms[now.termCount] = t;
        now.termCount++;
        return now.termCount;
    }

    public boolean drop(int i) {
        if (i < 0 || i >= now.termCount || now.termCount == 1) {
            return false;
        }
        history.keep(now);
        now.dropTerm(i);
        return true;
    }

    // ---- THE PLAN

    public boolean plan(int s, int n) {
        if (!now.hasNumber(s) || n < 0 || n > MOST_TIMES) {
            return false;
        }
        if (now.trialCount - now.times[s] + n > MOST_TRIALS) {
            return false;
        }
        history.keep(now);
        now.tryTimes(s, n);
        return true;
    }

    public void clear() {
        history.keep(now);
        now.tryNothing();
    }

    public int about(int what) {
        switch (what) {
            case 0:
                return now.factorCount;
            case 1:
                return now.termCount;
            case 2:
                return now.trialCount;
            case 3:
                return now.triedSettings();
            case 4:
                sweepPlan();
                return grid.rank;
            case 5:
                return now.seenCount;
            default:
                return aboutOne(what);
        }
    }

    private int aboutOne(int what) {
        if (what >= FIRST_TERM_ASKED && what < FIRST_TERM_ASKED + now.termCount) {
            return now.terms[what - FIRST_TERM_ASKED];
        }
        if (what >= FIRST_SETTING_ASKED && what < FIRST_SETTING_ASKED + now.settingCount()) {
            return now.times[what - FIRST_SETTING_ASKED];
        }
        return NONE;
    }

    public int mark(int t, int s) {
        if (!now.hasNumber(t) || !now.hasNumber(s)) {
            return 0;
        }
        return Desk.markOf(t, s);
    }

    public int table(int i, int j) {
        if (i < 0 || i >= now.termCount || j < 0 || j >= now.termCount) {
            return NO_CELL;
        }
        grid.fill(now, now.times);
        return (int) grid.cells[Grid.cellAt(i, j)];
    }

    // ---- what THE PLAN tells ahead of trying

    public long worth() {
        grid.fill(now, now.times);
        return grid.determinant();
    }

    public int known(int a, int b, int c, int d, int e) {
        if (!takeSum(a, b, c, d, e)) {
            return NONE;
        }
        sweepPlan();
        return grid.reaches(sum) ? 1 : 0;
    }

    public long spread(int a, int b, int c, int d, int e, int what) {
        if (!isFractionPart(what) || !takeSum(a, b, c, d, e)) {
            return NONE;
        }
        sweepPlan();
        if (!grid.reaches(sum)) {
            return NONE;
        }
        return partOfFraction(grid.measure(sum, sum), grid.lower, what);
    }

    public long widest(int what) {
        if (!isFractionPart(what) && what != WHERE) {
            return NONE;
        }
        sweepPlan();
        // unlike TERMS are independent over all SETTINGS: all these SUMS are KNOWN at full RANK alone
        if (grid.rank < now.termCount) {
            return NONE;
        }
        long greatest = NONE;
        int where = NONE;
        int settings = now.settingCount();
        for (int s = 0; s < settings; s++) {
            long upper = spreadAt(s);
            if (upper > greatest) {
                greatest = upper;
                where = s;
            }
        }
        return what == WHERE ? where : partOfFraction(greatest, grid.lower, what);
    }

    public int needed() {
        sweepPlan();
        int count = 0;
        int settings = now.settingCount();
        for (int s = 0; s < settings; s++) {
            // only a trial that no others can stand for has the SPREAD 1 at its own SETTING
            if (now.times[s] > 0 && spreadAt(s) == grid.lower) {
                count++;
            }
        }
        return count;
    }

    private void sweepPlan() {
        grid.fill(now, now.times);
        grid.sweep();
    }

    /** The upper number of the SPREAD at a SETTING over the swept grid's lower one. */
    private long spreadAt(int s) {
        int signs = now.signsAt(s);
        for (int i = 0; i < MOST_TERMS; i++) {
            line[i] = (signs >> i & 1) == 0 ? 1 : -1;
        }
        return grid.measure(line, line);
    }

    private boolean takeSum(int a, int b, int c, int d, int e) {
        sum[0] = a;
        sum[1] = b;
        sum[2] = c;
        sum[3] = d;
        sum[4] = e;
        for (int i = 0; i < now.termCount; i++) {
            if (sum[i] < -MOST_NUMBER || sum[i] > MOST_NUMBER) {
                return false;
            }
        }
        return true;
    }

    private static boolean isFractionPart(int what) {
        return what == UPPER || what == LOWER;
    }

    private static long partOfFraction(long upper, long lower, int what) {
        long divisor = commonDivisor(upper, lower);
        if (divisor == 0) {
            return 0;
        }
        return (what == UPPER ? upper : lower) / divisor;
    }

    private static long commonDivisor(long a, long b) {
        long big = Math.abs(a);
        long small = Math.abs(b);
        for (int step = 0; step < MOST_EUCLID_STEPS && small != 0; step++) {
            long rest = big % small;
            big = small;
            small = rest;
        }
        return big;
    }

    // ---- the best PLANS, SWAPS

    public boolean best(int n) {
        if (n < 0 || n > MOST_TRIALS) {
            return false;
        }
        planSearch.find(now, n);
        if (planSearch.bestCount < 1) {
            return false;
        }
        history.keep(now);
        now.takePlan(planSearch.first);
        return true;
    }

    public int bests(int n) {
        if (n < 0 || n > MOST_TRIALS) {
            return NONE;
        }
        planSearch.find(now, n);
        return planSearch.bestCount;
    }

    public boolean swap() {
        prepareSwaps();
        trial.copyFrom(grid);
        long greatest = trial.determinant();
        int left = NONE;
        int other = NONE;
        int settings = now.settingCount();
        for (int s = 0; s < settings; s++) {
            for (int t = 0; t < settings; t++) {
                if (t == s || now.times[s] == 0 || now.times[t] >= MOST_TIMES) {
                    continue;
                }
                long worth = worthOfSwap(s, t);
                if (worth > greatest) {
                    greatest = worth;
                    left = s;
                    other = t;
                }
            }
        }
        if (left == NONE || other == NONE) {
            return false;
        }
        history.keep(now);
        now.tryTimes(left, now.times[left] - 1);
        now.tryTimes(other, now.times[other] + 1);
        return true;
    }

    private void prepareSwaps() {
        grid.fill(now, now.times);
        Arrays.fill(swapWorths, NONE);
        int settings = now.settingCount();
        for (int s = 0; s < settings; s++) {
            kinds[s] = now.kindOf(now.signsAt(s));
        }
    }

    /** SETTINGS of one kind move the TABLE alike, so each pair of kinds is reckoned but once. */
    private long worthOfSwap(int left, int other) {
        int pair = kinds[left] * MOST_KINDS + kinds[other];
        if (swapWorths[pair] == NONE) {
            trial.copyFrom(grid);
            trial.shift(now.signsAt(left), -1);
            trial.shift(now.signsAt(other), 1);
            swapWorths[pair] = trial.determinant();
        }
        return swapWorths[pair];
    }

    public int next() {
        if (now.trialCount >= MOST_TRIALS) {
            return NONE;
        }
        grid.fill(now, now.times);
        long greatest = NONE;
        int found = NONE;
        int settings = now.settingCount();
        for (int s = 0; s < settings; s++) {
            if (now.times[s] >= MOST_TIMES) {
                continue;
            }
            trial.copyFrom(grid);
            trial.shift(now.signsAt(s), 1);
            long worth = trial.determinant();
            if (worth > greatest) {
                greatest = worth;
                found = s;
            }
        }
        return found;
    }

    // ---- PARTS by WORDS

    public boolean word(int i, int t, int m) {
        if (i < 0 || i >= MOST_WORDS || !now.hasNumber(t)) {
            return false;
        }
        if (t != 0 && ((m != 1 && m != -1) || Desk.hasMember(now.productsWithout(i), t))) {
            return false;
        }
        history.keep(now);
        now.words[i] = t;
        now.wordMarks[i] = m;
        return true;
    }

    public int part(int n) {
        if (n < 1 || n > MOST_TIMES) {
            return NONE;
        }
        // the WORDS are independent, so each of them halves the SETTINGS
        int trials = n * (now.settingCount() >> now.wordCount());
        if (trials > MOST_TRIALS) {
            return NONE;
        }
        history.keep(now);
        now.tryNothing();
        int settings = now.settingCount();
        for (int s = 0; s < settings; s++) {
            if (now.isInPart(s)) {
                now.tryTimes(s, n);
            }
        }
        return trials;
    }

    public int alike(int t) {
        return now.hasNumber(t) ? 1 << now.wordCount() : NONE;
    }

    public int alikeOf(int t, int i) {
        if (!now.hasNumber(t) || i < 0) {
            return NONE;
        }
        long products = now.productsWithout(NONE);
        int ahead = 0;
        int terms = now.settingCount();
        for (int u = 0; u < terms; u++) {
            if (Desk.hasMember(products, t ^ u)) {
                if (ahead == i) {
                    return u;
                }
                ahead++;
            }
        }
        return NONE;
    }

    public int length(int what) {
        if (what < 0 || what > MOST_FACTORS) {
            return NONE;
        }
        long products = now.productsWithout(NONE);
        int fewest = 0;
        int count = 0;
        int terms = now.settingCount();
        for (int t = 1; t < terms; t++) {
            if (Desk.hasMember(products, t)) {
                int size = Integer.bitCount(t);
                fewest = fewest == 0 ? size : Math.min(fewest, size);
                count += size == what ? 1 : 0;
            }
        }
        return what == 0 ? fewest : count;
    }

    public boolean bestPart(int k) {
        if (k < 0 || k > MOST_WORDS || k > now.factorCount) {
            return false;
        }
        partSearch.find(now.settingCount(), k);
        history.keep(now);
        for (int i = 0; i < MOST_WORDS; i++) {
            now.words[i] = i < k ? partSearch.first[i] : 0;
            now.wordMarks[i] = 1;
        }
        return true;
    }

    // ---- CHAINS

    public int chain() {
        if (now.trialCount > MOST_CHAINED) {
            return NONE;
        }
        chainSearch.find(now.times);
        return chainSearch.changes;
    }

    public int chainOf(int i) {
        if (now.trialCount > MOST_CHAINED || i < 0 || i >= now.trialCount) {
            return NONE;
        }
        chainSearch.find(now.times);
        return chainSearch.chained[i];
    }

    // ---- what was SEEN

    public int see(int s, int reading) {
        if (!now.hasNumber(s) || reading < -MOST_READING || reading > MOST_READING) {
            return NONE;
        }
        if (now.seenCount >= MOST_SEEN) {
            return NONE;
        }
        history.keep(now);
        now.seeOne(s, reading);
        return now.seenCount;
    }

    public void forget() {
        history.keep(now);
        now.seeNothing();
    }

    public long weight(int a, int b, int c, int d, int e, int what) {
        if (!isFractionPart(what) || !takeSum(a, b, c, d, e)) {
            return NO_WEIGHT;
        }
        sweepSeen();
        if (!grid.reaches(sum)) {
            return NO_WEIGHT;
        }
        return partOfFraction(grid.measure(sum, line), grid.lower, what);
    }

    public long miss(int what) {
        if (!isFractionPart(what)) {
            return NONE;
        }
        sweepSeen();
        long upper = now.seenSquares * grid.lower - grid.measure(line, line);
        return partOfFraction(upper, grid.lower, what);
    }

    /** Sweeps the TABLE of what was SEEN and puts each TERM's sum of readings into the line. */
    private void sweepSeen() {
        grid.fill(now, now.seenTimes);
        grid.sweep();
        int settings = now.settingCount();
        for (int i = 0; i < now.termCount; i++) {
            line[i] = 0;
            for (int s = 0; s < settings; s++) {
                if (now.seenSums[s] != 0) {
                    line[i] += Desk.markOf(now.terms[i], s) * now.seenSums[s];
                }
            }
        }
    }

    public boolean undo() {
        return history.takeBack(now);
    }

    /** All that undo() brings back. */
    private static final class Desk {
        int factorCount;
        int termCount;
        int trialCount;
        int seenCount;
        long seenSquares;
        final int[] terms;
        final int[] times;
        final int[] words;
        final int[] wordMarks;
        // WEIGHTS and MISS ask no more of the readings than how many and what sum at each SETTING
        final int[] seenTimes;
        final int[] seenSums;

        Desk() {
            terms = new int[MOST_TERMS];
            times = new int[MOST_SETTINGS];
            words = new int[MOST_WORDS];
            wordMarks = new int[MOST_WORDS];
            seenTimes = new int[MOST_SETTINGS];
            seenSums = new int[MOST_SETTINGS];
            factorCount = FIRST_FACTORS;
            termCount = 1;
        }

        void copyFrom(Desk other) {
            factorCount = other.factorCount;
            termCount = other.termCount;
            trialCount = other.trialCount;
            seenCount = other.seenCount;
            seenSquares = other.seenSquares;
            System.arraycopy(other.terms, 0, terms, 0, MOST_TERMS);
            System.arraycopy(other.times, 0, times, 0, MOST_SETTINGS);
            System.arraycopy(other.words, 0, words, 0, MOST_WORDS);
            System.arraycopy(other.wordMarks, 0, wordMarks, 0, MOST_WORDS);
            System.arraycopy(other.seenTimes, 0, seenTimes, 0, MOST_SETTINGS);
            System.arraycopy(other.seenSums, 0, seenSums, 0, MOST_SETTINGS);
        }

        void restart(int factors) {
            factorCount = factors;
            termCount = 1;
            terms[0] = 0;
            Arrays.fill(words, 0);
            tryNothing();
            seeNothing();
        }

        int settingCount() {
            return 1 << factorCount;
        }

        /** Whether there is such a SETTING, or such a TERM: both are numbers of the same range. */
        boolean hasNumber(int number) {
            return number >= 0 && number < settingCount();
        }

        boolean hasTerm(int t) {
            for (int i = 0; i < termCount; i++) {
                if (terms[i] == t) {
                    return true;
                }
            }
            return false;
        }

        void dropTerm(int gone) {
            for (int i = gone + 1; i < termCount; i++) {
                terms[i - 1] = terms[i];
            }
            termCount--;
        }

        void tryTimes(int s, int n) {
            trialCount += n - times[s];
            times[s] = n;
        }

        void tryNothing() {
            Arrays.fill(times, 0);
            trialCount = 0;
        }

        void takePlan(int[] other) {
            for (int s = 0; s < MOST_SETTINGS; s++) {
                tryTimes(s, other[s]);
            }
        }

        int triedSettings() {
            int count = 0;
            for (int s = 0; s < MOST_SETTINGS; s++) {
                count += times[s] > 0 ? 1 : 0;
            }
            return count;
        }

        static int markOf(int t, int s) {
            return (Integer.bitCount(t & ~s) & 1) == 0 ? 1 : -1;
        }

        /** Bit i is set where THE MODEL's TERM i is -1 at the SETTING. */
        int signsAt(int s) {
            int signs = 0;
            for (int i = 0; i < termCount; i++) {
                signs |= (Integer.bitCount(terms[i] & ~s) & 1) << i;
            }
            return signs;
        }

        /** One number (0 .. 15) for signs and their contraries, as both add the same to a TABLE. */
        int kindOf(int signs) {
            int all = (1 << termCount) - 1;
            return ((signs & 1) == 0 ? signs : all & ~signs) >> 1;
        }

        int wordCount() {
            int count = 0;
            for (int i = 0; i < MOST_WORDS; i++) {
                count += words[i] != 0 ? 1 : 0;
            }
            return count;
        }

        boolean isInPart(int s) {
            for (int i = 0; i < MOST_WORDS; i++) {
                if (words[i] != 0 && markOf(words[i], s) != wordMarks[i]) {
                    return false;
                }
            }
            return true;
        }

        /** The PRODUCTS of all WORDS but one, as a set: bit t stands for TERM t. */
        long productsWithout(int skipped) {
            long products = 1;
            for (int i = 0; i < MOST_WORDS; i++) {
                if (i != skipped && words[i] != 0) {
                    products |= multiplied(products, words[i]);
                }
            }
            return products;
        }

        static long multiplied(long products, int word) {
            long result = 0;
            for (int t = 0; t < MOST_SETTINGS; t++) {
                if (hasMember(products, t)) {
                    result |= 1L << (t ^ word);
                }
            }
            return result;
        }

        static boolean hasMember(long set, int t) {
            return (set >>> t & 1) != 0;
        }

        void seeOne(int s, int reading) {
            seenTimes[s]++;
            seenSums[s] += reading;
            seenSquares += reading * reading;
            seenCount++;
        }

        void seeNothing() {
            Arrays.fill(seenTimes, 0);
            Arrays.fill(seenSums, 0);
            seenSquares = 0;
            seenCount = 0;
        }
    }

    /** The desk as it was ahead of the latest calls that were done. */
    private static final class History {
        final Desk[] kept;
        int count;
        int top;

        History() {
            kept = new Desk[MOST_KEPT];
            for (int i = 0; i < MOST_KEPT; i++) {
                kept[i] = new Desk();
            }
        }

        void keep(Desk desk) {
            kept[top].copyFrom(desk);
            top = (top + 1) % MOST_KEPT;
            count = Math.min(count + 1, MOST_KEPT);
        }

        boolean takeBack(Desk desk) {
            if (count == 0) {
                return false;
            }
            top = (top + MOST_KEPT - 1) % MOST_KEPT;
            count--;
            desk.copyFrom(kept[top]);
            return true;
        }
    }

    /**
     * A TABLE. It is its own mirror, so the cells under and on its diagonal are held alone. All that
     * is reckoned in it stays whole: each cell is at any time a determinant of a part of the TABLE,
     * 60 to the 5th at most, so that a product of two fits a long.
     */
    private static final class Grid {
        private static final int[] START = {0, 1, 3, 6, 10};

        final long[] cells;
        final boolean[] swept;
        int size;
        int rank;
        long lower;

        Grid() {
            cells = new long[MOST_CELLS];
            swept = new boolean[MOST_TERMS];
            size = 1;
            lower = 1;
        }

        static int cellAt(int i, int j) {
            return i >= j ? START[i] + j : START[j] + i;
        }

        void copyFrom(Grid other) {
            size = other.size;
            System.arraycopy(other.cells, 0, cells, 0, MOST_CELLS);
        }

        void empty(int lines) {
            size = lines;
            Arrays.fill(cells, 0);
        }

        void fill(Desk desk, int[] times) {
            empty(desk.termCount);
            int settings = desk.settingCount();
            for (int s = 0; s < settings; s++) {
                if (times[s] > 0) {
                    shift(desk.signsAt(s), times[s]);
                }
            }
        }

        /** Adds trials at a SETTING with such signs. */
        void shift(int signs, int trials) {
            for (int i = 0; i < size; i++) {
                int row = START[i];
                int same = signs >> i;
                for (int j = 0; j <= i; j++) {
                    cells[row + j] += ((same ^ signs >> j) & 1) == 0 ? trials : -trials;
                }
            }
        }

        /** The determinant, by Bareiss's way without fractions; the cells are used up. */
        long determinant() {
            long before = 1;
            for (int k = 0; k < size - 1; k++) {
                long pivot = cells[START[k] + k];
                // a TABLE is never less than 0: a 0 here means that this line depends on those ahead
                if (pivot <= 0) {
                    return 0;
                }
                for (int i = k + 1; i < size; i++) {
                    long lead = cells[START[i] + k];
                    for (int j = k + 1; j <= i; j++) {
                        int at = START[i] + j;
                        cells[at] = (cells[at] * pivot - lead * cells[START[j] + k]) / before;
                    }
                }
                before = pivot;
            }
            return cells[START[size - 1] + size - 1];
        }

        /**
         * Sweeps out the lines that do not depend on those ahead. Then the cells, all over the lower
         * number, hold: for two swept lines the inverse with a minus; for a swept line and another
         * one by how much the first goes into the other; for two others 0.
         */
        void sweep() {
            lower = 1;
            rank = 0;
            for (int k = 0; k < size; k++) {
                long pivot = cells[START[k] + k];
                swept[k] = pivot > 0;
                if (pivot > 0) {
                    sweepLine(k, pivot);
                    lower = pivot;
                    rank++;
                }
            }
        }

        private void sweepLine(int k, long pivot) {
            if (lower < 1) {
                return;
            }
            for (int i = 0; i < size; i++) {
                long lead = cells[cellAt(i, k)];
                for (int j = 0; j <= i; j++) {
                    if (i != k && j != k) {
                        int at = START[i] + j;
                        cells[at] = (cells[at] * pivot - lead * cells[cellAt(j, k)]) / lower;
                    }
                }
            }
            cells[START[k] + k] = -lower;
        }

        /** Whether the SUM is KNOWN: of a swept TABLE. */
        boolean reaches(long[] numbers) {
            for (int j = 0; j < size; j++) {
                if (swept[j]) {
                    continue;
                }
                long made = 0;
                for (int i = 0; i < size; i++) {
                    made += swept[i] ? numbers[i] * cells[cellAt(i, j)] : 0;
                }
                if (made != numbers[j] * lower) {
                    return false;
                }
            }
            return true;
        }

        /** The left by the multiples of lines that make the right, times the lower number. */
        long measure(long[] left, long[] right) {
            long total = 0;
            for (int i = 0; i < size; i++) {
                for (int j = 0; j < size; j++) {
                    if (swept[i] && swept[j]) {
                        total -= left[i] * cells[cellAt(i, j)] * right[j];
                    }
                }
            }
            return total;
        }
    }

    /**
     * Finds the best PLANS. To change a FACTOR's mark in all trials at once leaves the WORTH, so any
     * SETTING may be turned to SETTING 0 by such changes: only PLANS that try none oftener than
     * SETTING 0 are looked at (the first best PLAN is one of them), and each stands for as many as
     * there are SETTINGS by those that are tried as often as SETTING 0.
     */
    private static final class PlanSearch {
        final int[] askedTerms;
        int askedTermCount;
        int askedFactors;
        int trials;
        int settings;
        final int[] signs;
        final int[] times;
        final int[] ways;
        // how many of the best PLANS looked at have so many SETTINGS tried as often as SETTING 0
        final int[] tally;
        final Grid sums;
        final Grid leaf;
        long greatest;
        final int[] first;
        int bestCount;

        PlanSearch() {
            askedTerms = new int[MOST_TERMS];
            signs = new int[MOST_SETTINGS];
            times = new int[MOST_SETTINGS];
            ways = new int[MOST_TRIALS + 1];
            tally = new int[MOST_SETTINGS + 1];
            sums = new Grid();
            leaf = new Grid();
            first = new int[MOST_SETTINGS];
            trials = NONE;
        }

        /** Sets the first best PLAN and how many are best (0 if there are no PLANS, NONE if too many). */
        void find(Desk desk, int n) {
            if (n < 0 || n > MOST_TRIALS || isAnswered(desk, n)) {
                return;
            }
            noteAsked(desk, n);
            int plans = countPlans();
            if (plans == 0 || plans > MOST_PLANS) {
                bestCount = plans == 0 ? 0 : NONE;
                return;
            }
            Arrays.fill(times, 0);
            Arrays.fill(tally, 0);
            sums.empty(desk.termCount);
            greatest = NONE;
            if (n == 0) {
                judge(0);
            } else {
                place(0, 0);
            }
            bestCount = countBests();
        }

        private boolean isAnswered(Desk desk, int n) {
            if (n != trials || desk.factorCount != askedFactors || desk.termCount != askedTermCount) {
                return false;
            }
            for (int i = 0; i < askedTermCount; i++) {
                if (askedTerms[i] != desk.terms[i]) {
                    return false;
                }
            }
            return true;
        }

        private void noteAsked(Desk desk, int n) {
            trials = n;
            askedFactors = desk.factorCount;
            askedTermCount = desk.termCount;
            System.arraycopy(desk.terms, 0, askedTerms, 0, MOST_TERMS);
            settings = desk.settingCount();
            for (int s = 0; s < settings; s++) {
                signs[s] = desk.signsAt(s);
            }
        }

        /** How many PLANS there are, or some number beyond the limit. */
        private int countPlans() {
            Arrays.fill(ways, 0);
            ways[0] = 1;
            for (int s = 0; s < settings && ways[trials] <= MOST_PLANS; s++) {
                for (int n = trials; n > 0; n--) {
                    int count = 0;
                    for (int here = 0; here <= MOST_TIMES && here <= n; here++) {
                        count += ways[n - here];
                    }
                    ways[n] = Math.min(count, MOST_PLANS + 1);
                }
            }
            return ways[trials];
        }

        /** Places the trials that are left in rising order of SETTINGS, which is the order of PLANS. */
        private void place(int placed, int from) {
            if (placed >= trials) {
                return;
            }
            for (int s = from; s < settings; s++) {
                int most = s == 0 ? MOST_TIMES : times[0];
                if (times[s] >= most) {
                    continue;
                }
                times[s]++;
                if (placed + 1 == trials) {
                    leaf.copyFrom(sums);
                    leaf.shift(signs[s], 1);
                    judge(leaf.determinant());
                } else {
                    sums.shift(signs[s], 1);
                    place(placed + 1, s);
                    sums.shift(signs[s], -1);
                }
                times[s]--;
            }
        }

        private void judge(long worth) {
            if (worth < greatest) {
                return;
            }
            if (worth > greatest) {
                greatest = worth;
                Arrays.fill(tally, 0);
                System.arraycopy(times, 0, first, 0, MOST_SETTINGS);
            }
            int alike = 0;
            for (int s = 0; s < settings; s++) {
                alike += times[s] == times[0] ? 1 : 0;
            }
            tally[alike]++;
        }

        private int countBests() {
            int count = 0;
            for (int alike = 1; alike <= settings; alike++) {
                count += tally[alike] * settings / alike;
            }
            return count;
        }
    }

    /**
     * Finds the BEST PART. Its WORDS as bestPart() wants them are such that the greatest FACTOR of
     * each is beyond that of the one ahead and in none of those behind; and PRODUCTS in rising order
     * compare as these WORDS do, so of parts with one ROW the first that is met is the first.
     */
    private static final class PartSearch {
        private static final int ROW_DIGIT = 4;
        private static final int BEYOND_ROWS = 1 << ROW_DIGIT * MOST_FACTORS;

        final int[] words;
        final int[] products;
        final int[] first;
        int terms;
        int count;
        int leastRow;

        PartSearch() {
            words = new int[MOST_WORDS];
            products = new int[MOST_PRODUCTS];
            first = new int[MOST_WORDS];
        }

        void find(int termCount, int wordCount) {
            terms = termCount;
            count = wordCount;
            leastRow = BEYOND_ROWS;
            products[0] = 0;
            extend(0, 0, 0);
        }

        private void extend(int placed, int row, int leading) {
            if (placed >= count || placed >= MOST_WORDS) {
                judge(row);
                return;
            }
            int from = Math.max(1, greatestFactor(leading) << 1);
            for (int t = from; t < terms; t++) {
                if ((t & leading) == 0) {
                    words[placed] = t;
                    extend(placed + 1, row + multiply(placed, t), leading | greatestFactor(t));
                }
            }
        }

        /** The TERM of the greatest FACTOR alone; 0 if there is none. */
        private static int greatestFactor(int t) {
            int found = 0;
            for (int f = 0; f < MOST_FACTORS; f++) {
                found = (t >> f & 1) == 0 ? found : 1 << f;
            }
            return found;
        }

        /** Puts the PRODUCTS with the new WORD behind the others; answers what ROW gains by them. */
        private int multiply(int placed, int word) {
            int held = 1 << placed;
            int gain = 0;
            for (int i = 0; i < held && held + i < MOST_PRODUCTS; i++) {
                int product = products[i] ^ word;
                products[held + i] = product;
                // ROW as one number, four bits for each count, that of one FACTOR foremost
                gain += 1 << ROW_DIGIT * (MOST_FACTORS - Integer.bitCount(product));
            }
            return gain;
        }

        private void judge(int row) {
            if (row < leastRow) {
                leastRow = row;
                System.arraycopy(words, 0, first, 0, MOST_WORDS);
            }
        }
    }

    /**
     * Finds the first CHAIN with the fewest CHANGES. A state is what is left of each place (a SETTING
     * that is tried), as one code, and the place where the CHAIN stands.
     */
    private static final class ChainSearch {
        // a place ahead of all, from which none is a CHANGE away
        private static final int BEGIN = MOST_CHAINED;
        private static final int BEYOND_CHANGES = MOST_CHAINED * MOST_FACTORS;

        final int[] askedTimes;
        boolean asked;
        final int[] places;
        final int[] stock;
        final int[] step;
        final int[] gaps;
        int placeCount;
        int codes;
        // made when it is asked for and no greater than is needed: most desks never ask for a CHAIN
        byte[] fewest;
        final int[] left;
        final int[] open;
        final int[] ahead;
        int openCount;
        final int[] chained;
        int changes;

        ChainSearch() {
            askedTimes = new int[MOST_SETTINGS];
            places = new int[MOST_CHAINED];
            stock = new int[MOST_CHAINED];
            step = new int[MOST_CHAINED];
            gaps = new int[(MOST_CHAINED + 1) * MOST_CHAINED];
            fewest = new byte[0];
            left = new int[MOST_CHAINED];
            open = new int[MOST_CHAINED];
            ahead = new int[MOST_CHAINED];
            chained = new int[MOST_CHAINED];
        }

        void find(int[] times) {
            if (isAnswered(times)) {
                return;
            }
            System.arraycopy(times, 0, askedTimes, 0, MOST_SETTINGS);
            asked = true;
            gatherPlaces();
            measureGaps();
            makeRoom(codes * placeCount);
            weighStates();
            readChain();
        }

        private boolean isAnswered(int[] times) {
            for (int s = 0; s < MOST_SETTINGS; s++) {
                if (times[s] != askedTimes[s]) {
                    return false;
                }
            }
            return asked;
        }

        private void gatherPlaces() {
            placeCount = 0;
            codes = 1;
            for (int s = 0; s < MOST_SETTINGS && placeCount < MOST_CHAINED; s++) {
                if (askedTimes[s] > 0) {
                    places[placeCount] = s;
                    stock[placeCount] = askedTimes[s];
                    step[placeCount] = codes;
                    codes *= askedTimes[s] + 1;
                    placeCount++;
                }
            }
        }

        private void measureGaps() {
            for (int at = 0; at < placeCount; at++) {
                for (int to = 0; to < placeCount; to++) {
                    gaps[at * MOST_CHAINED + to] = Integer.bitCount(places[at] ^ places[to]);
                }
            }
        }

        private void makeRoom(int need) {
            if (need > fewest.length && need <= MOST_CHAIN_STATES) {
                fewest = new byte[Math.min(MOST_CHAIN_STATES, Math.max(need, 2 * fewest.length))];
            }
        }

        /** For each state the fewest CHANGES to come; less is left in lesser codes, so these go first. */
        private void weighStates() {
            Arrays.fill(left, 0);
            for (int code = 0; code < codes; code++) {
                listOpen(code);
                for (int at = 0; at < placeCount; at++) {
                    int state = code * placeCount + at;
                    if (left[at] < stock[at] && state < fewest.length) {
                        fewest[state] = (byte) (openCount == 0 ? 0 : changesBy(at, firstLeast(at)));
                    }
                }
                countOn();
            }
        }

        /** Lists the places of which some is left, with the fewest CHANGES to come behind each. */
        private void listOpen(int code) {
            openCount = 0;
            for (int p = 0; p < placeCount; p++) {
                int state = (code - step[p]) * placeCount + p;
                if (left[p] > 0 && state >= 0 && state < fewest.length) {
                    open[openCount] = p;
                    ahead[openCount] = fewest[state];
                    openCount++;
                }
            }
        }

        /** What is left, as the next code has it. */
        private void countOn() {
            for (int p = 0; p < placeCount; p++) {
                if (left[p] < stock[p]) {
                    left[p]++;
                    return;
                }
                left[p] = 0;
            }
        }

        private int changesBy(int at, int choice) {
            return gaps[at * MOST_CHAINED + open[choice]] + ahead[choice];
        }

        /** Which of the open places is the first to go to with the fewest CHANGES. */
        private int firstLeast(int at) {
            int row = at * MOST_CHAINED;
            int found = 0;
            int least = BEYOND_CHANGES;
            for (int o = 0; o < openCount; o++) {
                int sum = gaps[row + open[o]] + ahead[o];
                if (sum < least) {
                    least = sum;
                    found = o;
                }
            }
            return found;
        }

        private void readChain() {
            System.arraycopy(stock, 0, left, 0, MOST_CHAINED);
            changes = 0;
            int code = codes - 1;
            int at = BEGIN;
            for (int i = 0; i < MOST_CHAINED && code > 0; i++) {
                listOpen(code);
                int to = open[firstLeast(at)];
                changes += gaps[at * MOST_CHAINED + to];
                chained[i] = places[to];
                left[to]--;
                code -= step[to];
                at = to;
            }
        }
    }
}
