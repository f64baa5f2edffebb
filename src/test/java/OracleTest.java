import java.math.BigInteger;
import java.util.ArrayList;
import java.util.Arrays;
import java.util.HashMap;
import java.util.List;
import java.util.Map;
import java.util.Random;
import java.util.TreeSet;

/**
 * Random runs of calls against a slow desk that does what the document's words say in the plainest
 * way: big fractions, all plans one by one, all sets of words, all orders of trials.
 */
public final class OracleTest {
    private static int wrong = 0;
    private static long compared = 0;

    public static void main(String[] args) {
        for (int seed = 1; seed <= 900; seed++) {
            run(seed);
        }
        System.out.println(compared + " answers compared, " + wrong + " not as due");
        if (wrong != 0 || compared < 100000) {
            System.exit(1);
        }
    }

    private static void run(int seed) {
        Random random = new Random(seed);
        TrialDesk desk = new TrialDesk();
        Slow slow = new Slow();
        List<String> calls = new ArrayList<>();
        String[] names = seed % 3 == 0 ? FULL_NAMES : NAMES;
        for (int i = 0; i < 240; i++) {
            String name = i == 0 ? "factors" : names[random.nextInt(names.length)];
            if (i > 0 && name.equals("factors") && random.nextInt(4) != 0) {
                continue;
            }
            int[] a = i == 0 ? new int[] {1 + seed % 6} : arguments(name, random, slow);
            if (name.equals("see") && seed % 3 == 0 && a[1] >= -1000 && a[1] <= 1000) {
                a[1] = a[1] < 0 ? -1000 : 1000;
            }
            calls.add(name + Arrays.toString(a));
            long due = slow.answer(name, a);
            long got = answer(desk, name, a);
            compared++;
            if (got != due) {
                wrong++;
                System.out.println("seed " + seed + ": " + calls + " answered " + got + ", due is " + due);
                return;
            }
        }
        compareAll(seed, desk, slow);
    }

    private static void compareAll(int seed, TrialDesk desk, Slow slow) {
        for (int what = -2; what < 170; what++) {
            compared++;
            if (desk.about(what) != slow.answer("about", new int[] {what})) {
                wrong++;
                System.out.println("seed " + seed + ": about(" + what + ") at the end");
            }
        }
    }

    private static final String[] NAMES = {
        "factors", "term", "term", "term", "drop", "plan", "plan", "plan", "plan", "clear", "about", "mark",
        "table", "worth", "known", "known", "spread", "spread", "spread", "widest", "widest", "needed", "best",
        "bests", "swap", "swap", "next", "word", "word", "part", "part", "alike", "alikeOf", "length", "bestPart",
        "chain", "chainOf", "chainOf", "see", "see", "see", "forget", "weight", "weight", "miss", "miss", "undo",
        "undo"};

    /** For runs in which plans and what was seen grow to their limits. */
    private static final String[] FULL_NAMES = {
        "term", "drop", "plan", "plan", "about", "table", "worth", "known", "spread", "widest", "needed", "swap",
        "next", "see", "see", "see", "see", "see", "see", "see", "see", "see", "see", "see", "see", "weight",
        "weight", "miss", "miss", "term", "best", "bests", "chain", "chainOf"};

    private static int[] arguments(String name, Random random, Slow slow) {
        int top = 1 << slow.k;
        int number = random.nextInt(12) == 0 ? edge(random, top) : random.nextInt(top);
        int other = random.nextInt(12) == 0 ? edge(random, top) : random.nextInt(top);
        switch (name) {
            case "factors":
                return new int[] {random.nextInt(9) - 1};
            case "term":
            case "alike":
                return new int[] {number};
            case "drop":
                return new int[] {random.nextInt(7) - 1};
            case "plan":
                return new int[] {number, random.nextInt(3) == 0 ? random.nextInt(12) - 1 : random.nextInt(3)};
            case "about":
                return new int[] {aboutWhat(random, number)};
            case "mark":
                return new int[] {number, other};
            case "table":
                return new int[] {random.nextInt(7) - 1, random.nextInt(7) - 1};
            case "known":
                return sumOf(random, slow, 5);
            case "spread":
            case "weight":
                return sumOf(random, slow, 6);
            case "widest":
                return new int[] {random.nextInt(5) - 1};
            case "best":
            case "bests":
                return new int[] {trials(random, slow.k)};
            case "word":
                return new int[] {random.nextInt(6) - 1, number, random.nextInt(8) == 0 ? random.nextInt(5) - 2
                    : random.nextInt(2) * 2 - 1};
            case "part":
                return new int[] {random.nextInt(3) == 0 ? random.nextInt(12) - 1 : 1 + random.nextInt(2)};
            case "alikeOf":
                return new int[] {number, random.nextInt(19) - 1};
            case "length":
                return new int[] {random.nextInt(9) - 1};
            case "bestPart":
                return new int[] {random.nextInt(7) - 1};
            case "chainOf":
                return new int[] {random.nextInt(14) - 1};
            case "see":
                return new int[] {number, random.nextInt(12) == 0 ? edge(random, 1001) : random.nextInt(2001) - 1000};
            case "miss":
                return new int[] {random.nextInt(4) - 1};
            default:
                return new int[0];
        }
    }

    private static int trials(Random random, int k) {
        int[] usual = {0, 19, 37, 11, 6, 4, 3};
        return random.nextInt(6) == 0 ? random.nextInt(44) - 1 : random.nextInt(usual[k] + 1);
    }

    private static int aboutWhat(Random random, int number) {
        int pick = random.nextInt(4);
        if (pick == 0) {
            return 100 + number;
        }
        return pick == 1 ? 9 + random.nextInt(8) : random.nextInt(9) - 1;
    }

    private static int edge(Random random, int top) {
        int[] edges = {-1, top, top - 1, 0, Integer.MAX_VALUE, Integer.MIN_VALUE, -top, -top + 1};
        return edges[random.nextInt(edges.length)];
    }

    private static int[] sumOf(Random random, Slow slow, int size) {
        int[] a = new int[size];
        boolean asSetting = random.nextInt(3) == 0;
        int s = random.nextInt(1 << slow.k);
        for (int i = 0; i < 5; i++) {
            a[i] = random.nextInt(3) == 0 ? random.nextInt(19) - 9 : random.nextInt(3) - 1;
            if (asSetting && i < slow.terms.size()) {
                a[i] = Slow.mark(slow.terms.get(i), s);
            }
            if (i >= slow.terms.size() && random.nextBoolean()) {
                a[i] = edge(random, 10);
            }
        }
        if (random.nextInt(20) == 0) {
            a[random.nextInt(5)] = edge(random, 10);
        }
        if (size == 6) {
            a[5] = random.nextInt(12) == 0 ? random.nextInt(5) - 1 : random.nextInt(2);
        }
        return a;
    }

    private static long answer(TrialDesk x, String name, int[] a) {
        switch (name) {
            case "factors": return x.factors(a[0]) ? 1 : 0;
            case "term": return x.term(a[0]);
            case "drop": return x.drop(a[0]) ? 1 : 0;
            case "plan": return x.plan(a[0], a[1]) ? 1 : 0;
            case "clear": x.clear(); return 0;
            case "about": return x.about(a[0]);
            case "mark": return x.mark(a[0], a[1]);
            case "table": return x.table(a[0], a[1]);
            case "worth": return x.worth();
            case "known": return x.known(a[0], a[1], a[2], a[3], a[4]);
            case "spread": return x.spread(a[0], a[1], a[2], a[3], a[4], a[5]);
            case "widest": return x.widest(a[0]);
            case "needed": return x.needed();
            case "best": return x.best(a[0]) ? 1 : 0;
            case "bests": return x.bests(a[0]);
            case "swap": return x.swap() ? 1 : 0;
            case "next": return x.next();
            case "word": return x.word(a[0], a[1], a[2]) ? 1 : 0;
            case "part": return x.part(a[0]);
            case "alike": return x.alike(a[0]);
            case "alikeOf": return x.alikeOf(a[0], a[1]);
            case "length": return x.length(a[0]);
            case "bestPart": return x.bestPart(a[0]) ? 1 : 0;
            case "chain": return x.chain();
            case "chainOf": return x.chainOf(a[0]);
            case "see": return x.see(a[0], a[1]);
            case "forget": x.forget(); return 0;
            case "weight": return x.weight(a[0], a[1], a[2], a[3], a[4], a[5]);
            case "miss": return x.miss(a[0]);
            default: return x.undo() ? 1 : 0;
        }
    }

    /** An exact fraction. */
    private static final class Q {
        static final Q ZERO = new Q(BigInteger.ZERO, BigInteger.ONE);
        final BigInteger upper;
        final BigInteger lower;

        Q(BigInteger u, BigInteger l) {
            BigInteger g = u.gcd(l);
            if (l.signum() < 0) {
                g = g.negate();
            }
            upper = u.divide(g);
            lower = l.divide(g);
        }

        static Q of(long n) {
            return new Q(BigInteger.valueOf(n), BigInteger.ONE);
        }

        Q plus(Q o) {
            return new Q(upper.multiply(o.lower).add(o.upper.multiply(lower)), lower.multiply(o.lower));
        }

        Q minus(Q o) {
            return plus(new Q(o.upper.negate(), o.lower));
        }

        Q by(Q o) {
            return new Q(upper.multiply(o.upper), lower.multiply(o.lower));
        }

        Q over(Q o) {
            return new Q(upper.multiply(o.lower), lower.multiply(o.upper));
        }

        boolean isZero() {
            return upper.signum() == 0;
        }

        int against(Q o) {
            return minus(o).upper.signum();
        }

        long part(int what) {
            return (what == 0 ? upper : lower).longValueExact();
        }
    }

    /** The desk in the document's plainest words. */
    private static final class Slow {
        private static final Map<String, int[]> BEST_PARTS = new HashMap<>();

        int k = 3;
        List<Integer> terms = new ArrayList<>(List.of(0));
        int[] plan = new int[64];
        int[] words = new int[4];
        int[] marks = new int[4];
        List<int[]> seen = new ArrayList<>();
        final List<Slow> past = new ArrayList<>();

        void keep() {
            Slow s = new Slow();
            s.take(this);
            past.add(s);
            if (past.size() > 8) {
                past.remove(0);
            }
        }

        void take(Slow o) {
            k = o.k;
            terms = new ArrayList<>(o.terms);
            plan = o.plan.clone();
            words = o.words.clone();
            marks = o.marks.clone();
            seen = new ArrayList<>(o.seen);
        }

        static int mark(int t, int s) {
            int product = 1;
            for (int f = 0; f < 6; f++) {
                if ((t >> f & 1) == 1) {
                    product *= (s >> f & 1) == 1 ? 1 : -1;
                }
            }
            return product;
        }

        boolean is(int number) {
            return number >= 0 && number < 1 << k;
        }

        int trials() {
            return Arrays.stream(plan).sum();
        }

        long answer(String name, int[] a) {
            switch (name) {
                case "factors": return factors(a[0]) ? 1 : 0;
                case "term": return term(a[0]);
                case "drop": return drop(a[0]) ? 1 : 0;
                case "plan": return plan(a[0], a[1]) ? 1 : 0;
                case "clear": keep(); plan = new int[64]; return 0;
                case "about": return about(a[0]);
                case "mark": return is(a[0]) && is(a[1]) ? mark(a[0], a[1]) : 0;
                case "table": return table(a[0], a[1]);
                case "worth": return worth(plan);
                case "known": return known(a);
                case "spread": return spread(a);
                case "widest": return widest(a[0]);
                case "needed": return needed();
                case "best": return best(a[0]) ? 1 : 0;
                case "bests": return bests(a[0]);
                case "swap": return swap() ? 1 : 0;
                case "next": return next();
                case "word": return word(a[0], a[1], a[2]) ? 1 : 0;
                case "part": return part(a[0]);
                case "alike": return is(a[0]) ? alikes(a[0]).size() : -1;
                case "alikeOf":
                    return is(a[0]) && a[1] >= 0 && a[1] < alikes(a[0]).size() ? alikes(a[0]).get(a[1]) : -1;
                case "length": return length(a[0]);
                case "bestPart": return bestPart(a[0]) ? 1 : 0;
                case "chain": return trials() > 12 ? -1 : chain()[0];
                case "chainOf": return chainOf(a[0]);
                case "see": return see(a[0], a[1]);
                case "forget": keep(); seen.clear(); return 0;
                case "weight": return weight(a);
                case "miss": return miss(a[0]);
                default: return undo() ? 1 : 0;
            }
        }

        boolean factors(int n) {
            if (n < 1 || n > 6) {
                return false;
            }
            keep();
            take(new Slow());
            k = n;
            return true;
        }

        int term(int t) {
            if (!is(t) || terms.contains(t) || terms.size() == 5) {
                return -1;
            }
            keep();
            terms.add(t);
            return terms.size();
        }

        boolean drop(int i) {
            if (i < 0 || i >= terms.size() || terms.size() == 1) {
                return false;
            }
            keep();
            terms.remove(i);
            return true;
        }

        boolean plan(int s, int n) {
            if (!is(s) || n < 0 || n > 9 || trials() - plan[s] + n > 40) {
                return false;
            }
            keep();
            plan[s] = n;
            return true;
        }

        int about(int what) {
            switch (what) {
                case 0: return k;
                case 1: return terms.size();
                case 2: return trials();
                case 3: return (int) Arrays.stream(plan).filter(n -> n > 0).count();
                case 4: return rank(rows(plan));
                case 5: return seen.size();
                default:
            }
            if (what >= 10 && what <= 14 && what - 10 < terms.size()) {
                return terms.get(what - 10);
            }
            return what >= 100 && what <= 163 && is(what - 100) ? plan[what - 100] : -1;
        }

        int[][] rows(int[] times) {
            int m = terms.size();
            int[][] rows = new int[m][m];
            for (int i = 0; i < m; i++) {
                for (int j = 0; j < m; j++) {
                    for (int s = 0; s < 1 << k; s++) {
                        rows[i][j] += times[s] * mark(terms.get(i), s) * mark(terms.get(j), s);
                    }
                }
            }
            return rows;
        }

        int table(int i, int j) {
            int m = terms.size();
            return i < 0 || j < 0 || i >= m || j >= m ? -1000 : rows(plan)[i][j];
        }

        long worth(int[] times) {
            return determinant(rows(times), 0, (1 << terms.size()) - 1);
        }

        /** Along the first line, then the next, with the columns that are free. */
        static long determinant(int[][] rows, int line, int free) {
            if (line == rows.length) {
                return 1;
            }
            long total = 0;
            int sign = 1;
            for (int j = 0; j < rows.length; j++) {
                if ((free >> j & 1) == 1) {
                    if (rows[line][j] != 0) {
                        total += sign * rows[line][j] * determinant(rows, line + 1, free & ~(1 << j));
                    }
                    sign = -sign;
                }
            }
            return total;
        }

        static int rank(int[][] rows) {
            return reduce(fractions(rows), rows.length == 0 ? 0 : rows[0].length);
        }

        static Q[][] fractions(int[][] rows) {
            Q[][] f = new Q[rows.length][];
            for (int i = 0; i < rows.length; i++) {
                f[i] = new Q[rows[i].length];
                for (int j = 0; j < rows[i].length; j++) {
                    f[i][j] = Q.of(rows[i][j]);
                }
            }
            return f;
        }

        /** Gauss and Jordan with the last line that has something as pivot. */
        static int reduce(Q[][] f, int columns) {
            int done = 0;
            for (int c = 0; c < columns && done < f.length; c++) {
                int pivot = -1;
                for (int i = done; i < f.length; i++) {
                    if (!f[i][c].isZero()) {
                        pivot = i;
                    }
                }
                if (pivot < 0) {
                    continue;
                }
                Q[] line = f[pivot];
                f[pivot] = f[done];
                f[done] = line;
                for (int i = 0; i < f.length; i++) {
                    if (i != done && !f[i][c].isZero()) {
                        Q by = f[i][c].over(line[c]);
                        for (int j = 0; j < f[i].length; j++) {
                            f[i][j] = f[i][j].minus(by.by(line[j]));
                        }
                    }
                }
                done++;
            }
            return done;
        }

        /** Multiples of the rows (which mirror themselves) that make the target; null if there are none. */
        static Q[] multiples(int[][] rows, Q[] target) {
            int m = rows.length;
            Q[][] f = new Q[m][m + 1];
            for (int i = 0; i < m; i++) {
                for (int j = 0; j < m; j++) {
                    f[i][j] = Q.of(rows[j][i]);
                }
                f[i][m] = target[i];
            }
            int rank = reduce(f, m);
            for (int i = rank; i < m; i++) {
                if (!f[i][m].isZero()) {
                    return null;
                }
            }
            Q[] result = new Q[m];
            Arrays.fill(result, Q.ZERO);
            for (int i = 0; i < rank; i++) {
                int c = 0;
                while (f[i][c].isZero()) {
                    c++;
                }
                result[c] = f[i][m].over(f[i][c]);
            }
            return result;
        }

        Q[] sum(int[] a) {
            Q[] sum = new Q[terms.size()];
            for (int i = 0; i < sum.length; i++) {
                if (a[i] < -9 || a[i] > 9) {
                    return null;
                }
                sum[i] = Q.of(a[i]);
            }
            return sum;
        }

        static Q product(Q[] a, Q[] b) {
            Q total = Q.ZERO;
            for (int i = 0; i < a.length; i++) {
                total = total.plus(a[i].by(b[i]));
            }
            return total;
        }

        int known(int[] a) {
            Q[] sum = sum(a);
            return sum == null ? -1 : multiples(rows(plan), sum) == null ? 0 : 1;
        }

        long spread(int[] a) {
            Q[] sum = sum(a);
            if (sum == null || a[5] < 0 || a[5] > 1) {
                return -1;
            }
            Q[] by = multiples(rows(plan), sum);
            return by == null ? -1 : product(sum, by).part(a[5]);
        }

        long widest(int what) {
            Q greatest = Q.of(-1);
            int where = -1;
            int[][] rows = rows(plan);
            for (int s = 0; s < 1 << k; s++) {
                Q[] sum = line(s);
                Q[] by = multiples(rows, sum);
                if (by == null) {
                    return -1;
                }
                Q spread = product(sum, by);
                if (spread.against(greatest) > 0) {
                    greatest = spread;
                    where = s;
                }
            }
            return what == 2 ? where : what == 0 || what == 1 ? greatest.part(what) : -1;
        }

        Q[] line(int s) {
            Q[] line = new Q[terms.size()];
            for (int i = 0; i < line.length; i++) {
                line[i] = Q.of(mark(terms.get(i), s));
            }
            return line;
        }

        int needed() {
            int all = rank(rows(plan));
            int count = 0;
            for (int s = 0; s < 64; s++) {
                if (plan[s] > 0) {
                    plan[s]--;
                    if (rank(rows(plan)) < all) {
                        count++;
                    }
                    plan[s]++;
                }
            }
            return count;
        }

        /** All PLANS of n trials in their order; null if there are too many. */
        List<int[]> plans(int n) {
            List<int[]> all = new ArrayList<>();
            return addPlans(all, new int[64], 0, n) ? all : null;
        }

        boolean addPlans(List<int[]> all, int[] times, int s, int n) {
            int rest = (1 << k) - s;
            if (rest * 9 < n) {
                return true;
            }
            if (rest == 0) {
                all.add(times.clone());
                return all.size() <= 20000;
            }
            for (times[s] = Math.min(9, n); times[s] >= 0; times[s]--) {
                if (!addPlans(all, times, s + 1, n - times[s])) {
                    return false;
                }
            }
            times[s] = 0;
            return true;
        }

        boolean best(int n) {
            List<int[]> all = n < 0 || n > 40 ? null : plans(n);
            if (all == null || all.isEmpty()) {
                return false;
            }
            long greatest = -1;
            int[] found = null;
            for (int[] times : all) {
                long worth = worth(times);
                if (worth > greatest) {
                    greatest = worth;
                    found = times;
                }
            }
            keep();
            plan = found.clone();
            return true;
        }

        int bests(int n) {
            List<int[]> all = n < 0 || n > 40 ? null : plans(n);
            if (all == null) {
                return -1;
            }
            long greatest = -1;
            int count = 0;
            for (int[] times : all) {
                long worth = worth(times);
                count = worth > greatest ? 1 : worth == greatest ? count + 1 : count;
                greatest = Math.max(greatest, worth);
            }
            return count;
        }

        boolean swap() {
            long greatest = -1;
            int[] found = null;
            for (int s = 0; s < 1 << k; s++) {
                for (int t = 0; t < 1 << k; t++) {
                    if (s != t && plan[s] > 0 && plan[t] < 9) {
                        int[] times = plan.clone();
                        times[s]--;
                        times[t]++;
                        long worth = worth(times);
                        if (worth > greatest) {
                            greatest = worth;
                            found = times;
                        }
                    }
                }
            }
            if (found == null || greatest <= worth(plan)) {
                return false;
            }
            keep();
            plan = found;
            return true;
        }

        int next() {
            long greatest = -1;
            int found = -1;
            for (int s = 0; s < 1 << k && trials() < 40; s++) {
                if (plan[s] < 9) {
                    int[] times = plan.clone();
                    times[s]++;
                    long worth = worth(times);
                    if (worth > greatest) {
                        greatest = worth;
                        found = s;
                    }
                }
            }
            return found;
        }

        static TreeSet<Integer> products(int[] words) {
            TreeSet<Integer> products = new TreeSet<>();
            for (int some = 0; some < 1 << words.length; some++) {
                int product = 0;
                for (int i = 0; i < words.length; i++) {
                    product ^= (some >> i & 1) == 1 ? words[i] : 0;
                }
                products.add(product);
            }
            return products;
        }

        boolean word(int i, int t, int m) {
            if (i < 0 || i > 3 || !is(t) || (t != 0 && m != 1 && m != -1)) {
                return false;
            }
            int[] others = words.clone();
            others[i] = 0;
            if (t != 0 && products(others).contains(t)) {
                return false;
            }
            keep();
            words[i] = t;
            marks[i] = m;
            return true;
        }

        int part(int n) {
            int[] times = new int[64];
            for (int s = 0; s < 1 << k; s++) {
                boolean in = true;
                for (int i = 0; i < 4; i++) {
                    in &= words[i] == 0 || mark(words[i], s) == marks[i];
                }
                times[s] = in ? n : 0;
            }
            int trials = Arrays.stream(times).sum();
            if (n < 1 || n > 9 || trials > 40) {
                return -1;
            }
            keep();
            plan = times;
            return trials;
        }

        /** Those that are the same, or the contrary, at all SETTINGS of the PART. */
        List<Integer> alikes(int t) {
            List<Integer> result = new ArrayList<>();
            for (int u = 0; u < 1 << k; u++) {
                TreeSet<Integer> values = new TreeSet<>();
                for (int s = 0; s < 1 << k; s++) {
                    boolean in = true;
                    for (int i = 0; i < 4; i++) {
                        in &= words[i] == 0 || mark(words[i], s) == marks[i];
                    }
                    if (in) {
                        values.add(mark(t, s) * mark(u, s));
                    }
                }
                if (values.size() == 1) {
                    result.add(u);
                }
            }
            return result;
        }

        static int[] row(TreeSet<Integer> products) {
            int[] row = new int[7];
            for (int p : products) {
                row[Integer.bitCount(p)]++;
            }
            row[0] = 0;
            return row;
        }

        int length(int what) {
            if (what < 0 || what > 6) {
                return -1;
            }
            int[] row = row(products(words));
            if (what > 0) {
                return row[what];
            }
            for (int f = 1; f <= 6; f++) {
                if (row[f] > 0) {
                    return f;
                }
            }
            return 0;
        }

        boolean bestPart(int n) {
            if (n < 0 || n > 4 || n > k) {
                return false;
            }
            keep();
            words = BEST_PARTS.computeIfAbsent(k + " " + n, key -> bestWords(n)).clone();
            marks = new int[] {1, 1, 1, 1};
            return true;
        }

        int[] bestWords(int n) {
            List<TreeSet<Integer>> best = new ArrayList<>();
            addParts(best, new int[n], 0, 1);
            int[] result = new int[4];
            TreeSet<Integer> products = best.get(0);
            for (int i = 0; i < n; i++) {
                TreeSet<Integer> left = new TreeSet<>(products);
                left.removeAll(products(result));
                result[i] = left.first();
            }
            return result;
        }

        void addParts(List<TreeSet<Integer>> best, int[] chosen, int count, int from) {
            if (count == chosen.length) {
                TreeSet<Integer> products = products(chosen);
                if (products.size() == 1 << count && (best.isEmpty() || isBefore(products, best.get(0)))) {
                    best.clear();
                    best.add(products);
                }
                return;
            }
            for (int t = from; t < 1 << k; t++) {
                chosen[count] = t;
                addParts(best, chosen, count + 1, t + 1);
            }
        }

        static boolean isBefore(TreeSet<Integer> a, TreeSet<Integer> b) {
            int byRow = Arrays.compare(row(a), row(b));
            if (byRow != 0) {
                return byRow < 0;
            }
            int[] first = a.stream().mapToInt(i -> i).toArray();
            return Arrays.compare(first, b.stream().mapToInt(i -> i).toArray()) < 0;
        }

        /** The CHANGES, then the SETTINGS of the first best CHAIN. */
        int[] chain() {
            return trials() > 7 ? chainByTrials() : chainByOrders();
        }

        /** Each trial is one by itself; sets of trials that are left, from none to all. */
        int[] chainByTrials() {
            int[] at = new int[trials()];
            int n = 0;
            for (int s = 0; s < 64; s++) {
                for (int i = 0; i < plan[s]; i++) {
                    at[n++] = s;
                }
            }
            int[][] rest = new int[1 << n][n];
            for (int left = 1; left < 1 << n; left++) {
                for (int last = 0; last < n; last++) {
                    rest[left][last] = Integer.MAX_VALUE;
                    for (int i = 0; i < n; i++) {
                        if ((left >> i & 1) == 1) {
                            int changes = Integer.bitCount(at[last] ^ at[i]) + rest[left & ~(1 << i)][i];
                            rest[left][last] = Math.min(rest[left][last], changes);
                        }
                    }
                }
            }
            int all = (1 << n) - 1;
            int[] best = new int[n + 1];
            best[0] = Integer.MAX_VALUE;
            for (int i = 0; i < n; i++) {
                best[0] = Math.min(best[0], rest[all & ~(1 << i)][i]);
            }
            int due = best[0];
            int last = -1;
            for (int p = 1, left = all; p <= n; p++) {
                for (int i = 0; i < n; i++) {
                    int here = last < 0 ? 0 : Integer.bitCount(at[last < 0 ? 0 : last] ^ at[i]);
                    if ((left >> i & 1) == 1 && here + rest[left & ~(1 << i)][i] == due) {
                        due -= here;
                        left &= ~(1 << i);
                        last = i;
                        break;
                    }
                }
                best[p] = at[last];
            }
            return best;
        }

        int[] chainByOrders() {
            int[] best = new int[trials() + 1];
            best[0] = Integer.MAX_VALUE;
            chainOn(best, new int[trials() + 1], plan.clone(), 0);
            return best;
        }

        void chainOn(int[] best, int[] made, int[] left, int count) {
            if (count == made.length - 1) {
                if (made[0] < best[0]) {
                    System.arraycopy(made, 0, best, 0, made.length);
                }
                return;
            }
            int changes = made[0];
            for (int s = 0; s < 1 << k; s++) {
                if (left[s] > 0) {
                    left[s]--;
                    made[0] = changes + (count == 0 ? 0 : Integer.bitCount(made[count] ^ s));
                    made[count + 1] = s;
                    chainOn(best, made, left, count + 1);
                    left[s]++;
                }
            }
            made[0] = changes;
        }

        long chainOf(int i) {
            if (trials() > 12 || i < 0 || i >= trials()) {
                return -1;
            }
            return chain()[i + 1];
        }

        int see(int s, int reading) {
            if (!is(s) || reading < -1000 || reading > 1000 || seen.size() == 60) {
                return -1;
            }
            keep();
            seen.add(new int[] {s, reading});
            return seen.size();
        }

        int[][] seenRows() {
            int[] times = new int[64];
            for (int[] one : seen) {
                times[one[0]]++;
            }
            return rows(times);
        }

        /** WEIGHTS that make the MISS least: its slopes are 0 there. */
        Q[] weights() {
            Q[] pulls = new Q[terms.size()];
            Arrays.fill(pulls, Q.ZERO);
            for (int[] one : seen) {
                for (int i = 0; i < pulls.length; i++) {
                    pulls[i] = pulls[i].plus(Q.of((long) one[1] * mark(terms.get(i), one[0])));
                }
            }
            return multiples(seenRows(), pulls);
        }

        long weight(int[] a) {
            Q[] sum = sum(a);
            if (sum == null || a[5] < 0 || a[5] > 1 || multiples(seenRows(), sum) == null) {
                return -1000000;
            }
            return product(sum, weights()).part(a[5]);
        }

        long miss(int what) {
            if (what != 0 && what != 1) {
                return -1;
            }
            Q total = Q.ZERO;
            Q[] weights = weights();
            for (int[] one : seen) {
                Q off = Q.of(one[1]).minus(product(weights, line(one[0])));
                total = total.plus(off.by(off));
            }
            return total.part(what);
        }

        boolean undo() {
            if (past.isEmpty()) {
                return false;
            }
            take(past.remove(past.size() - 1));
            return true;
        }
    }
}
