import java.util.ArrayList;
import java.util.List;

/**
 * What the tests of bounds share: answers that are due, and pairs of desks that must be alike in all
 * that can be asked of them. A desk is made anew for each look, so none has more than 512 calls.
 */
final class Bounds {
    static final int MAX = Integer.MAX_VALUE;
    static final int MIN = Integer.MIN_VALUE;
    static final int NONE = -1;
    // undo() keeps 8; behind one call that is taken back again 7 of those ahead of it are sure
    private static final int ALL_KEPT = 10;
    private static final int SURELY_KEPT = 7;

    private static int wrong = 0;
    private static int asked = 0;
    private static int sentences = 0;
    private static String sentence = "";

    private Bounds() {
    }

    /** Calls that bring a desk where a bound is met. */
    interface Steps {
        void on(TrialDesk x);
    }

    /** One call; a boolean counts 1 or 0. */
    interface Call {
        long of(TrialDesk x);
    }

    /** Begins the test of a sentence of the document; what stands in [ ] is no quotation. */
    static void says(String place, String words) {
        sentence = place + ", \"" + words + "\"";
        sentences++;
    }

    static void due(String call, long got, long want) {
        asked++;
        if (got != want) {
            wrong++;
            System.out.println(sentence + ": " + call + " answered " + got + ", due is " + want);
        }
    }

    static void due(String call, boolean got, boolean want) {
        due(call, bit(got), bit(want));
    }

    static long bit(boolean answer) {
        return answer ? 1 : 0;
    }

    static void end() {
        System.out.println(sentences + " sentences, " + asked + " answers asked, " + wrong + " not as due");
        if (wrong != 0 || sentences == 0) {
            System.exit(1);
        }
    }

    static TrialDesk made(Steps steps) {
        TrialDesk x = new TrialDesk();
        steps.on(x);
        return x;
    }

    /** The call has this answer, and nothing is done: not even undo() can tell. */
    static void refused(String name, Steps ahead, Call call, long answer) {
        due(name, call.of(made(ahead)), answer);
        same(name + " does nothing", ahead, and(ahead, call), ALL_KEPT);
    }

    static void refused(String name, Steps ahead, Call call) {
        refused(name, ahead, call, 0);
    }

    /** The call has this answer, leaves a desk as these other steps do, and undo() takes it back. */
    static void done(String name, Steps ahead, Call call, long answer, Steps alike) {
        due(name, call.of(made(ahead)), answer);
        same(name + " leaves all as it should", and(ahead, call), alike, 0);
        isTakenBack(name, ahead, call);
    }

    /** The call was done, with a change or without: undo() takes back just that one. */
    static void isTakenBack(String name, Steps ahead, Call call) {
        due("undo() behind " + name, made(and(ahead, call)).undo(), true);
        same("undo() behind " + name, ahead, and(and(ahead, call), x -> bit(x.undo())), SURELY_KEPT);
    }

    static Steps and(Steps ahead, Call call) {
        return x -> {
            ahead.on(x);
            call.of(x);
        };
    }

    /** Both desks answer alike, and do so behind each number of calls of undo() up to this one. */
    static void same(String what, Steps one, Steps other, int undos) {
        for (int back = 0; back <= undos; back++) {
            compare(what + ", " + back + " taken back", open(made(one), back), open(made(other), back));
        }
        for (int i = 0; i < 4; i++) {
            compare(what + ", WORD " + i, withoutWord(made(one), i), withoutWord(made(other), i));
        }
        compare(what + ", the PART", part(made(one)), part(made(other)));
        compare(what + ", what was SEEN", seen(made(one)), seen(made(other)));
    }

    private static void compare(String what, List<Long> one, List<Long> other) {
        due(what + " (" + one + " and " + other + ")", one.equals(other), true);
    }

    /** What can be asked without a change. */
    private static List<Long> open(TrialDesk x, int undos) {
        List<Long> all = new ArrayList<>();
        for (int i = 0; i < undos; i++) {
            all.add(bit(x.undo()));
        }
        for (int what = 0; what <= 5; what++) {
            all.add((long) x.about(what));
        }
        for (int i = 0; i <= 5; i++) {
            all.add((long) x.about(10 + i));
        }
        addTimes(all, x);
        addProducts(all, x);
        for (int i = 0; i < x.about(1); i++) {
            all.add(x.weight(bit(i, 0), bit(i, 1), bit(i, 2), bit(i, 3), bit(i, 4), 0));
            all.add(x.weight(bit(i, 0), bit(i, 1), bit(i, 2), bit(i, 3), bit(i, 4), 1));
        }
        all.add(x.miss(0));
        all.add(x.miss(1));
        all.add((long) x.bests(1));
        all.add((long) x.chain());
        all.add((long) x.chainOf(0));
        all.add((long) x.chainOf(11));
        return all;
    }

    private static int bit(int i, int j) {
        return i == j ? 1 : 0;
    }

    private static void addTimes(List<Long> all, TrialDesk x) {
        for (int s = 0; s <= 1 << x.about(0); s++) {
            all.add((long) x.about(100 + s));
        }
    }

    private static void addProducts(List<Long> all, TrialDesk x) {
        for (int i = 0; i <= x.alike(0); i++) {
            all.add((long) x.alikeOf(0, i));
        }
        all.add((long) x.length(0));
    }

    private static List<Long> withoutWord(TrialDesk x, int i) {
        List<Long> all = new ArrayList<>();
        all.add(bit(x.word(i, 0, 1)));
        addProducts(all, x);
        return all;
    }

    /** The PART tells the marks of the WORDS. */
    private static List<Long> part(TrialDesk x) {
        List<Long> all = new ArrayList<>();
        all.add((long) x.part(1));
        addTimes(all, x);
        return all;
    }

    /** The WEIGHTS of each TERM by itself tell the sum of readings at each SETTING. */
    private static List<Long> seen(TrialDesk x) {
        List<Long> all = new ArrayList<>();
        for (int i = x.about(1); i > 1; i--) {
            x.drop(0);
        }
        int only = x.about(10);
        for (int t = 0; t < 1 << x.about(0); t++) {
            if (t != only) {
                x.term(t);
                x.drop(0);
                only = t;
            }
            all.add(x.weight(1, 0, 0, 0, 0, 0));
            all.add(x.weight(1, 0, 0, 0, 0, 1));
        }
        return all;
    }

    /** k FACTORS and something of all that a desk holds, by six calls that were done. */
    static Steps full(int k) {
        int last = (1 << k) - 1;
        return x -> {
            x.factors(k);
            x.term(last);
            x.plan(0, 2);
            x.plan(last, 1);
            x.word(2, last, -1);
            x.see(last, -30);
        };
    }

    /** k FACTORS and THE MODEL of these TERMS (TERM 0, if it is one of them, comes first). */
    static Steps model(int k, int... terms) {
        return x -> {
            x.factors(k);
            boolean hasZero = false;
            for (int t : terms) {
                hasZero |= t == 0;
            }
            if (!hasZero) {
                x.term(terms[0]);
                x.drop(0);
            }
            for (int t : terms) {
                x.term(t);
            }
        };
    }

    /** So many times each, from SETTING 0 on. */
    static Steps tried(Steps ahead, int... times) {
        return x -> {
            ahead.on(x);
            for (int s = 0; s < times.length; s++) {
                if (times[s] > 0) {
                    x.plan(s, times[s]);
                }
            }
        };
    }

    static Steps then(Steps first, Steps second) {
        return x -> {
            first.on(x);
            second.on(x);
        };
    }

    static void planIs(String call, TrialDesk x, int... times) {
        int trials = 0;
        for (int s = 0; s < times.length; s++) {
            due(call + ", SETTING " + s, x.about(100 + s), times[s]);
            trials += times[s];
        }
        due(call + ", trials", x.about(2), trials);
    }

    static void modelIs(String call, TrialDesk x, int... terms) {
        due(call + ", TERMS", x.about(1), terms.length);
        for (int i = 0; i < terms.length; i++) {
            due(call + ", TERM " + i, x.about(10 + i), terms[i]);
        }
        due(call + ", no TERM more", x.about(10 + terms.length), NONE);
    }

    static void productsAre(String call, TrialDesk x, int... products) {
        due(call + ", PRODUCTS", x.alike(0), products.length);
        for (int i = 0; i < products.length; i++) {
            due(call + ", PRODUCT " + i, x.alikeOf(0, i), products[i]);
        }
        due(call + ", no PRODUCT more", x.alikeOf(0, products.length), NONE);
    }

    static long divisor(long a, long b) {
        return b == 0 ? Math.abs(a) : divisor(b, a % b);
    }
}
