/** The bounds of the promises 27 to 30: on each bound, next to it on either side, and the calls behind it. */
public final class BoundsOfSeenTest {
    private static final int MAX = Bounds.MAX;
    private static final int MIN = Bounds.MIN;
    private static final int NONE = Bounds.NONE;
    private static final long NO_WEIGHT = -1000000;

    public static void main(String[] args) {
        seeNoneSuch();
        seeReadings();
        seeBeyondSixty();
        forgetNothing();
        forgetSixty();
        weightNumbers();
        weightOfTheUnknown();
        weightWhat();
        weightFractions();
        weightOnItsBounds();
        missWhat();
        missOfNothing();
        missFractions();
        missOnItsBounds();
        Bounds.end();
    }

    // ---- promise 27

    private static void seeNoneSuch() {
        Bounds.says("promise 27", "A trial at a SETTING .. NONE, and it is not, if that can't be");
        for (int k = 1; k <= 6; k++) {
            int all = 1 << k;
            for (int s : new int[] {-1, all, all + 1, -all, 64, MAX, MIN}) {
                Bounds.refused("see(" + s + ", 5) at K " + k, Bounds.full(k), x -> x.see(s, 5), NONE);
            }
            for (int s : new int[] {0, all - 1}) {
                TrialDesk x = new TrialDesk();
                x.factors(k);
                x.term(all - 1);
                Bounds.due("see(" + s + ", 5) at K " + k, x.see(s, 5), 1);
                Bounds.due("SEEN", x.about(5), 1);
                Bounds.due("it was there", x.weight(1, x.mark(all - 1, s), 0, 0, 0, 0), 5);
                Bounds.due("THE PLAN stays", x.about(2), 0);
                Bounds.isTakenBack("see(" + s + ", 5)", Bounds.full(k), d -> d.see(s, 5));
            }
        }
    }

    private static void seeReadings() {
        Bounds.says("promise 27", "with a reading [-1000 .. 1000] .. NONE, and it is not, if that can't be");
        for (int reading : new int[] {-1001, 1001, -1002, 1002, MAX, MIN}) {
            Bounds.refused("see(0, " + reading + ") of nothing", x -> { }, x -> x.see(0, reading), NONE);
            Bounds.refused("see(7, " + reading + ")", Bounds.full(3), x -> x.see(7, reading), NONE);
        }
        for (int reading : new int[] {-1000, -999, -1, 0, 1, 999, 1000}) {
            TrialDesk x = new TrialDesk();
            Bounds.due("see(3, " + reading + ")", x.see(3, reading), 1);
            Bounds.due("WEIGHT", x.weight(1, 0, 0, 0, 0, 0), reading);
            Bounds.due("see(3, 1001)", x.see(3, 1001), NONE);
            Bounds.due("see(3, -1001)", x.see(3, -1001), NONE);
            Bounds.due("SEEN", x.about(5), 1);
            Bounds.isTakenBack("see(3, " + reading + ")", Bounds.full(3), d -> d.see(3, reading));
        }
    }

    private static Bounds.Steps seen(int count) {
        return x -> {
            x.factors(2);
            x.term(3);
            for (int i = 0; i < count; i++) {
                x.see(i % 4, i);
            }
        };
    }

    private static void seeBeyondSixty() {
        Bounds.says("promise 27", "how many. NONE, and it is not, .. or 60 were");
        TrialDesk x = new TrialDesk();
        for (int i = 1; i <= 60; i++) {
            Bounds.due("see() number " + i, x.see(i % 8, i), i);
        }
        for (int i = 0; i < 3; i++) {
            Bounds.due("see() number 61", x.see(i, 1), NONE);
            Bounds.due("SEEN", x.about(5), 60);
        }
        Bounds.due("undo()", x.undo(), true);
        Bounds.due("SEEN", x.about(5), 59);
        Bounds.due("see() number 60 again", x.see(0, 1), 60);
        Bounds.due("see() number 61 again", x.see(0, 1), NONE);
        for (int s = 0; s < 4; s++) {
            int setting = s;
            Bounds.refused("see(" + s + ", 9) number 61", seen(60), d -> d.see(setting, 9), NONE);
            Bounds.due("see(" + s + ", 9) number 60", Bounds.made(seen(59)).see(s, 9), 60);
            Bounds.isTakenBack("see(" + s + ", 9) number 60", seen(59), d -> d.see(setting, 9));
        }
        Bounds.due("60 readings 0 .. 59", Bounds.made(seen(60)).weight(2, 0, 0, 0, 0, 0), 59);
        TrialDesk one = new TrialDesk();
        for (int i = 1; i <= 60; i++) {
            one.see(7, -1000);
        }
        Bounds.due("60 at one SETTING", one.weight(1, 0, 0, 0, 0, 0), -1000);
        Bounds.due("61 at one SETTING", one.see(7, 0), NONE);
    }

    // ---- promise 28

    private static void forgetNothing() {
        Bounds.says("promise 28", "Nothing was SEEN.");
        Bounds.Call forget = x -> {
            x.forget();
            return 0;
        };
        Bounds.same("forget() of nothing", x -> { }, x -> x.forget(), 0);
        Bounds.isTakenBack("forget() of nothing", x -> { }, forget);
        for (int k = 1; k <= 6; k++) {
            TrialDesk x = Bounds.made(Bounds.full(k));
            x.forget();
            Bounds.due("SEEN", x.about(5), 0);
            Bounds.due("upper MISS", x.miss(0), 0);
            Bounds.due("lower MISS", x.miss(1), 1);
            Bounds.due("WEIGHT", x.weight(1, 1, 0, 0, 0, 0), NO_WEIGHT);
            Bounds.due("TERMS stay", x.about(1), 2);
            Bounds.due("trials stay", x.about(2), 3);
            Bounds.due("WORDS stay", x.alike(0), 2);
            Bounds.isTakenBack("forget()", Bounds.full(k), forget);
        }
    }

    private static void forgetSixty() {
        Bounds.says("promise 28", "Nothing was SEEN. [of 60]");
        TrialDesk x = Bounds.made(seen(60));
        Bounds.due("see() number 61", x.see(0, 1), NONE);
        x.forget();
        Bounds.due("see() number 1", x.see(1, 8), 1);
        Bounds.due("nothing is left of the 60", x.weight(1, -1, 0, 0, 0, 0), 8);
        x.undo();
        x.undo();
        Bounds.due("SEEN", x.about(5), 60);
        Bounds.due("their WEIGHT", x.weight(2, 0, 0, 0, 0, 0), 59);
        Bounds.due("see() number 61", x.see(0, 1), NONE);
    }

    // ---- promise 29

    private static long weightWith(TrialDesk x, int at, int number, int what) {
        return x.weight(at == 0 ? number : 0, at == 1 ? number : 0, at == 2 ? number : 0, at == 3 ? number : 0,
            at == 4 ? number : 0, what);
    }

    private static void weightNumbers() {
        Bounds.says("promise 29", "NONE - 999999 if it .. can't be");
        int[] terms = {0, 1, 2, 4, 7};
        for (int size = 1; size <= 5; size++) {
            TrialDesk x = Bounds.made(Bounds.model(3, java.util.Arrays.copyOf(terms, size)));
            for (int s = 0; s < 8; s++) {
                x.see(s, 100);
            }
            for (int at = 0; at < size; at++) {
                for (int number : new int[] {-10, 10, MAX, MIN}) {
                    Bounds.due("upper, number " + at + " is " + number, weightWith(x, at, number, 0), NO_WEIGHT);
                    Bounds.due("lower, number " + at + " is " + number, weightWith(x, at, number, 1), NO_WEIGHT);
                }
                for (int number : new int[] {-9, 9}) {
                    Bounds.due("upper, number " + at + " is " + number, weightWith(x, at, number, 0), at == 0 ? 100 * number : 0);
                    Bounds.due("lower, number " + at + " is " + number, weightWith(x, at, number, 1), 1);
                }
            }
        }
    }

    private static void weightOfTheUnknown() {
        Bounds.says("promise 29", "NONE - 999999 if it is not KNOWN by what was SEEN");
        TrialDesk x = Bounds.made(Bounds.tried(Bounds.model(2, 0, 1), 1, 1, 1, 1));
        for (int what = 0; what <= 1; what++) {
            Bounds.due("nothing SEEN, but all tried", x.weight(1, 0, 0, 0, 0, what), NO_WEIGHT);
            Bounds.due("the SUM of 0", x.weight(0, 0, 0, 0, 0, what), what);
        }
        x.clear();
        x.see(1, 6);
        Bounds.due("(1 1) at SETTING 1", x.weight(1, 1, 0, 0, 0, 0), 6);
        Bounds.due("(-9 -9) at SETTING 1", x.weight(-9, -9, 0, 0, 0, 0), -54);
        Bounds.due("(1 0)", x.weight(1, 0, 0, 0, 0, 0), NO_WEIGHT);
        Bounds.due("(0 1)", x.weight(0, 1, 0, 0, 0, 1), NO_WEIGHT);
        Bounds.due("(9 8)", x.weight(9, 8, 0, 0, 0, 0), NO_WEIGHT);
        x.see(3, 7);
        Bounds.due("(1 0), the same mark again", x.weight(1, 0, 0, 0, 0, 0), NO_WEIGHT);
        x.see(2, 0);
        // 13/2 with mark 1, 0 with mark -1: half of their sum
        Bounds.due("upper of (1 0) when it is KNOWN", x.weight(1, 0, 0, 0, 0, 0), 13);
        Bounds.due("lower of (1 0) when it is KNOWN", x.weight(1, 0, 0, 0, 0, 1), 4);
        x.undo();
        Bounds.due("(1 0) behind undo()", x.weight(1, 0, 0, 0, 0, 0), NO_WEIGHT);
    }

    private static void weightWhat() {
        Bounds.says("promise 29", "NONE - 999999 if .. another what");
        TrialDesk x = new TrialDesk();
        x.see(0, 3);
        x.see(0, 4);
        for (int what : new int[] {-1, 2, 3, -2, MAX, MIN}) {
            Bounds.due("what " + what, x.weight(1, 0, 0, 0, 0, what), NO_WEIGHT);
            Bounds.due("what " + what + " of the SUM of 0", x.weight(0, 0, 0, 0, 0, what), NO_WEIGHT);
        }
        Bounds.due("what 0", x.weight(1, 0, 0, 0, 0, 0), 7);
        Bounds.due("what 1", x.weight(1, 0, 0, 0, 0, 1), 2);
    }

    private static void weightFractions() {
        Bounds.says("Terms 1", "a lower one (1), 1 or more, without a divisor in common [WEIGHTS]");
        for (int reading : new int[] {-1000, -7, 0, 1, 12, 1000}) {
            TrialDesk x = new TrialDesk();
            long total = 0;
            for (int n = 1; n <= 60; n++) {
                // every other reading is 1 more, so that the sums have many divisors
                int more = reading < 1000 ? n % 2 : 0;
                x.see(n % 8, reading + more);
                total += reading + more;
                int number = n % 19 - 9;
                long common = Bounds.divisor(Math.abs(number * total), n);
                Bounds.due(number + " of TERM 0, upper of " + n, x.weight(number, 0, 0, 0, 0, 0), number * total / common);
                Bounds.due(number + " of TERM 0, lower of " + n, x.weight(number, 0, 0, 0, 0, 1), n / common);
            }
        }
    }

    private static void weightOnItsBounds() {
        Bounds.says("promise 29", "The WEIGHT of a SUM [60 readings of -1000, 1000]");
        int[] terms = {0, 1, 2, 3};
        for (int at = 0; at < 4; at++) {
            TrialDesk x = Bounds.made(Bounds.model(2, terms));
            for (int i = 0; i < 60; i++) {
                x.see(i % 4, 1000 * x.mark(terms[at], i % 4));
            }
            for (int other = 0; other < 4; other++) {
                Bounds.due("9 of TERM " + other, weightWith(x, other, 9, 0), other == at ? 9000 : 0);
                Bounds.due("-9 of TERM " + other, weightWith(x, other, -9, 0), other == at ? -9000 : 0);
                Bounds.due("lower", weightWith(x, other, 9, 1), 1);
            }
            Bounds.due("MISS", x.miss(0), 0);
        }
        fiveTermsOfSixty();
    }

    /** Twelve readings at each of five SETTINGS that tell all: the WEIGHTS give back each mean. */
    private static void fiveTermsOfSixty() {
        int[] terms = {0, 1, 2, 4, 7};
        int[] settings = {7, 1, 2, 4, 0};
        int[] means = {1000, -1000, 1000, -1000, 1000};
        TrialDesk x = Bounds.made(Bounds.model(3, terms));
        for (int i = 0; i < 60; i++) {
            x.see(settings[i % 5], means[i % 5]);
        }
        for (int i = 0; i < 5; i++) {
            int s = settings[i];
            Bounds.due("SETTING " + s, x.weight(x.mark(0, s), x.mark(1, s), x.mark(2, s), x.mark(4, s), x.mark(7, s), 0),
                means[i]);
            Bounds.due("9 of SETTING " + s, x.weight(9 * x.mark(0, s), 9 * x.mark(1, s), 9 * x.mark(2, s), 9 * x.mark(4, s),
                9 * x.mark(7, s), 0), 9L * means[i]);
        }
        Bounds.due("upper MISS", x.miss(0), 0);
        Bounds.due("lower MISS", x.miss(1), 1);
    }

    // ---- promise 30

    private static void missWhat() {
        Bounds.says("promise 30", "NONE for another what");
        TrialDesk x = new TrialDesk();
        for (int round = 0; round < 2; round++) {
            for (int what : new int[] {-1, 2, 3, -2, MAX, MIN}) {
                Bounds.due("miss(" + what + ")", x.miss(what), NONE);
            }
            x.see(0, 1);
            x.see(1, 2);
        }
        x.undo();
        x.undo();
        Bounds.due("miss(0)", x.miss(0), 1);
        Bounds.due("miss(1)", x.miss(1), 2);
    }

    private static void missOfNothing() {
        Bounds.says("promise 30", "The MISS (0 / 1 if nothing was SEEN)");
        for (int k = 1; k <= 6; k++) {
            TrialDesk x = new TrialDesk();
            x.factors(k);
            Bounds.due("miss(0)", x.miss(0), 0);
            Bounds.due("miss(1)", x.miss(1), 1);
            x.plan(1, 3);
            x.term(1);
            Bounds.due("miss(0) of two TERMS", x.miss(0), 0);
            Bounds.due("miss(1) of two TERMS", x.miss(1), 1);
            x.see(1, -1000);
            Bounds.due("miss(0) of one", x.miss(0), 0);
            Bounds.due("miss(1) of one", x.miss(1), 1);
            x.see(1, 1000);
            Bounds.due("miss(0) of two", x.miss(0), 2000000);
            x.forget();
            Bounds.due("miss(0) behind forget()", x.miss(0), 0);
            Bounds.due("miss(1) behind forget()", x.miss(1), 1);
        }
    }

    private static void missFractions() {
        Bounds.says("Terms 1", "a lower one (1), 1 or more, without a divisor in common [MISS]");
        TrialDesk x = new TrialDesk();
        long total = 0;
        long squares = 0;
        for (int n = 1; n <= 60; n++) {
            int reading = n * n * 7 % 2001 - 1000;
            x.see(n % 8, reading);
            total += reading;
            squares += reading * reading;
            long upper = squares * n - total * total;
            long common = Bounds.divisor(upper, n);
            Bounds.due("upper of " + n, x.miss(0), upper / common);
            Bounds.due("lower of " + n, x.miss(1), n / common);
        }
    }

    private static void missOnItsBounds() {
        Bounds.says("promise 30", "The MISS [60 readings of -1000, 1000]");
        int[] terms = {0, 1, 2, 4, 7};
        for (int size = 1; size <= 5; size++) {
            TrialDesk x = Bounds.made(Bounds.model(3, java.util.Arrays.copyOf(terms, size)));
            for (int i = 0; i < 59; i++) {
                x.see(5, i % 2 == 0 ? 1000 : -1000);
            }
            // the mean of 59 is 1000/59: 59 * 10^6 - 10^6 / 59
            Bounds.due("upper of 59, " + size + " TERMS", x.miss(0), 3480000000L);
            Bounds.due("lower of 59, " + size + " TERMS", x.miss(1), 59);
            x.see(5, -1000);
            Bounds.due("upper of 60, " + size + " TERMS", x.miss(0), 60000000);
            Bounds.due("lower of 60, " + size + " TERMS", x.miss(1), 1);
            Bounds.due("a 61st", x.see(5, 0), NONE);
            Bounds.due("upper of 60 still", x.miss(0), 60000000);
        }
    }
}
