import java.math.BigInteger;
import java.util.Arrays;

/** The bounds of the promises 10 to 18: on each bound, next to it on either side, and the calls behind it. */
public final class BoundsOfPlansTest {
    private static final int MAX = Bounds.MAX;
    private static final int MIN = Bounds.MIN;
    private static final int NONE = Bounds.NONE;
    // for each K the most trials of which there are 20000 PLANS or fewer, and how many PLANS these are
    private static final int[] MOST_TOLD = {0, 18, 36, 10, 5, 3, 2};
    private static final int[] PLANS_TOLD = {0, 1, 1, 19440, 15504, 5984, 2080};

    public static void main(String[] args) {
        worthOfTooFew();
        worthOfTheMost();
        knownNumbers();
        knownOfOtherNumbers();
        knownOfNothing();
        knownAtEachRank();
        spreadNumbers();
        spreadOfTheUnknown();
        spreadWhat();
        fractions();
        widestWhat();
        widestOfTheUnknown();
        widestLeastSetting();
        neededOfNothing();
        neededOneTrialLess();
        bestThatCannotBe();
        bestOfTooMany();
        bestOfNone();
        bestFirstOfSeveral();
        bestsThatCannotBe();
        bestsOfTooMany();
        numbersOfPlansNextToTheLimit();
        nineTimesHereToo();
        swapThatDoesNotRaise();
        swapOfWhatIsTried();
        swapToLessThanNine();
        swapFirstOfSeveral();
        nextBelowNine();
        nextBelowForty();
        nextOfSeveral();
        Bounds.end();
    }

    // ---- promise 10

    private static void worthOfTooFew() {
        Bounds.says("promise 10", "The WORTH. [0 as long as the RANK is too small]");
        for (int size = 1; size <= 5; size++) {
            TrialDesk x = Bounds.made(Bounds.model(3, java.util.Arrays.copyOf(new int[] {0, 1, 2, 4, 7}, size)));
            Bounds.due("worth() of nothing", x.worth(), 0);
            int[] settings = {0, 1, 2, 4, 7};
            for (int i = 0; i < size - 1; i++) {
                x.plan(settings[i], 9);
                Bounds.due("worth() of " + (i + 1) + " SETTINGS, " + size + " TERMS", x.worth(), 0);
            }
        }
        TrialDesk x = Bounds.made(Bounds.model(2, 0, 1, 2));
        x.plan(0, 1);
        x.plan(1, 1);
        Bounds.due("two of three", x.worth(), 0);
        x.plan(2, 1);
        // the marks make a square of WORTH 4 * 4
        Bounds.due("three of three", x.worth(), 16);
        x.plan(2, 0);
        Bounds.due("two again", x.worth(), 0);
    }

    private static void worthOfTheMost() {
        Bounds.says("promise 10", "The WORTH. [of 40 trials]");
        int[] terms = {0, 1, 2, 4, 7};
        long want = 1;
        for (int size = 1; size <= 5; size++) {
            want *= 40;
            TrialDesk x = Bounds.made(Bounds.tried(Bounds.model(3, java.util.Arrays.copyOf(terms, size)), 5, 5, 5, 5, 5, 5, 5, 5));
            Bounds.due("40 trials, " + size + " TERMS", x.worth(), want);
        }
        TrialDesk x = Bounds.made(Bounds.tried(Bounds.model(3, 0, 1), 9, 9, 9, 9, 4));
        // 22 with mark -1, 18 with mark 1: 4 * 22 * 18
        Bounds.due("40 trials", x.worth(), 1584);
    }

    // ---- promise 11

    private static long knownWith(TrialDesk x, int at, int number) {
        return x.known(at == 0 ? number : 0, at == 1 ? number : 0, at == 2 ? number : 0, at == 3 ? number : 0,
            at == 4 ? number : 0);
    }

    private static long spreadWith(TrialDesk x, int at, int number, int what) {
        return x.spread(at == 0 ? number : 0, at == 1 ? number : 0, at == 2 ? number : 0, at == 3 ? number : 0,
            at == 4 ? number : 0, what);
    }

    private static Bounds.Steps eachOnce(int size) {
        return Bounds.tried(Bounds.model(3, java.util.Arrays.copyOf(new int[] {0, 1, 2, 4, 7}, size)), 1, 1, 1, 1, 1, 1, 1, 1);
    }

    private static void knownNumbers() {
        Bounds.says("promise 11", "1, 0; NONE if a number can't be");
        for (int size = 1; size <= 5; size++) {
            TrialDesk x = Bounds.made(eachOnce(size));
            for (int at = 0; at < size; at++) {
                for (int number : new int[] {-10, 10, -11, 11, MAX, MIN}) {
                    Bounds.due("number " + at + " is " + number, knownWith(x, at, number), NONE);
                }
                for (int number = -9; number <= 9; number++) {
                    Bounds.due("number " + at + " is " + number, knownWith(x, at, number), 1);
                }
            }
        }
        TrialDesk x = new TrialDesk();
        Bounds.due("10 of nothing tried", x.known(10, 0, 0, 0, 0), NONE);
        Bounds.due("9 of nothing tried", x.known(9, 0, 0, 0, 0), 0);
        Bounds.due("-9 of nothing tried", x.known(-9, 0, 0, 0, 0), 0);
        Bounds.due("-10 of nothing tried", x.known(-10, 0, 0, 0, 0), NONE);
    }

    private static void knownOfOtherNumbers() {
        Bounds.says("Terms 1", "a number -9 .. 9 for each TERM of THE MODEL (other numbers do not count)");
        for (int number : new int[] {-10, 10, MAX, MIN, 0, 9}) {
            TrialDesk x = Bounds.made(eachOnce(4));
            Bounds.due("the fifth of four", x.known(1, 1, 1, 1, number), 1);
            Bounds.due("the fourth of four", x.known(1, 1, 1, number, 0), number == 0 || number == 9 ? 1 : NONE);
            Bounds.due("spread, the fifth of four", x.spread(2, 2, 2, 2, number, 0), 2);
            x.drop(3);
            Bounds.due("the fourth of three", x.known(1, 1, 1, number, number), 1);
            x.drop(2);
            x.drop(1);
            Bounds.due("the second of one", x.known(1, number, number, number, number), 1);
            Bounds.due("spread, the second of one", x.spread(1, number, number, number, number, 1), 8);
            x.clear();
            Bounds.due("the second of one, not KNOWN", x.known(1, number, number, number, number), 0);
            x.see(0, 7);
            Bounds.due("weight, the second of one", x.weight(1, number, number, number, number, 0), 7);
        }
    }

    private static void knownOfNothing() {
        Bounds.says("promise 11", "Whether a SUM .. is KNOWN by THE PLAN [nothing tried]");
        TrialDesk x = Bounds.made(Bounds.model(3, 0, 1, 2, 4, 7));
        Bounds.due("the SUM of 0", x.known(0, 0, 0, 0, 0), 1);
        Bounds.due("its upper SPREAD", x.spread(0, 0, 0, 0, 0, 0), 0);
        Bounds.due("its lower SPREAD", x.spread(0, 0, 0, 0, 0, 1), 1);
        for (int at = 0; at < 5; at++) {
            Bounds.due("1 of TERM " + at, knownWith(x, at, 1), 0);
            Bounds.due("-1 of TERM " + at, knownWith(x, at, -1), 0);
        }
    }

    private static void knownAtEachRank() {
        Bounds.says("Terms 1", "It is KNOWN if it is a sum of multiples of the TABLE's lines");
        // one trial tells no more than what is seen at its own SETTING
        TrialDesk x = Bounds.made(Bounds.tried(Bounds.model(2, 0, 1, 2), 0, 0, 0, 4));
        Bounds.due("(1 1 1)", x.known(1, 1, 1, 0, 0), 1);
        Bounds.due("(-9 -9 -9)", x.known(-9, -9, -9, 0, 0), 1);
        Bounds.due("(9 9 8)", x.known(9, 9, 8, 0, 0), 0);
        Bounds.due("(1 1 0)", x.known(1, 1, 0, 0, 0), 0);
        Bounds.due("(1 1 -1)", x.known(1, 1, -1, 0, 0), 0);
        x.plan(1, 1);
        Bounds.due("(1 1 -1) with two", x.known(1, 1, -1, 0, 0), 1);
        Bounds.due("(9 9 8) with two", x.known(9, 9, 8, 0, 0), 1);
        Bounds.due("(9 8 8) with two", x.known(9, 8, 8, 0, 0), 0);
        x.plan(0, 1);
        Bounds.due("(9 8 8) with three", x.known(9, 8, 8, 0, 0), 1);
        Bounds.due("(0 0 1) with three", x.known(0, 0, 1, 0, 0), 1);
        x.plan(0, 0);
        Bounds.due("(9 8 8) with two again", x.known(9, 8, 8, 0, 0), 0);
    }

    // ---- promise 12

    private static void spreadNumbers() {
        Bounds.says("promise 12", "NONE if it .. can't be");
        for (int size = 1; size <= 5; size++) {
            TrialDesk x = Bounds.made(eachOnce(size));
            for (int at = 0; at < size; at++) {
                for (int number : new int[] {-10, 10, MAX, MIN}) {
                    Bounds.due("upper, number " + at + " is " + number, spreadWith(x, at, number, 0), NONE);
                    Bounds.due("lower, number " + at + " is " + number, spreadWith(x, at, number, 1), NONE);
                }
                for (int number : new int[] {-9, 9}) {
                    Bounds.due("upper, number " + at + " is " + number, spreadWith(x, at, number, 0), 81);
                    Bounds.due("lower, number " + at + " is " + number, spreadWith(x, at, number, 1), 8);
                }
            }
        }
    }

    private static void spreadOfTheUnknown() {
        Bounds.says("promise 12", "NONE if it is not KNOWN");
        TrialDesk x = Bounds.made(Bounds.tried(Bounds.model(2, 0, 1), 0, 0, 3));
        for (int what = 0; what <= 1; what++) {
            Bounds.due("(1 0)", x.spread(1, 0, 0, 0, 0, what), NONE);
            Bounds.due("(1 1)", x.spread(1, 1, 0, 0, 0, what), NONE);
            Bounds.due("(1 -1)", x.spread(1, -1, 0, 0, 0, what), what == 0 ? 1 : 3);
            Bounds.due("(-9 9)", x.spread(-9, 9, 0, 0, 0, what), what == 0 ? 27 : 1);
        }
        x.plan(1, 1);
        Bounds.due("(1 1) when it is KNOWN", x.spread(1, 1, 0, 0, 0, 0), 1);
        // a half of each mean: (1/3 + 1) / 4
        Bounds.due("upper of (1 0) when it is KNOWN", x.spread(1, 0, 0, 0, 0, 0), 1);
        Bounds.due("lower of (1 0) when it is KNOWN", x.spread(1, 0, 0, 0, 0, 1), 3);
        x.clear();
        Bounds.due("nothing tried", x.spread(1, -1, 0, 0, 0, 0), NONE);
    }

    private static void spreadWhat() {
        Bounds.says("promise 12", "NONE if .. another what");
        TrialDesk x = Bounds.made(eachOnce(2));
        for (int what : new int[] {-1, 2, 3, -2, MAX, MIN}) {
            Bounds.due("what " + what, x.spread(1, 1, 0, 0, 0, what), NONE);
            Bounds.due("what " + what + " of the SUM of 0", x.spread(0, 0, 0, 0, 0, what), NONE);
        }
        Bounds.due("what 0", x.spread(1, 1, 0, 0, 0, 0), 1);
        Bounds.due("what 1", x.spread(1, 1, 0, 0, 0, 1), 4);
    }

    private static void fractions() {
        Bounds.says("Terms 1", "Fractions are told by an upper number (what 0) and a lower one (1), 1 or more, without a divisor in common.");
        for (int trials = 1; trials <= 40; trials++) {
            TrialDesk x = new TrialDesk();
            for (int s = 0, left = trials; left > 0; s++, left -= 9) {
                x.plan(s, Math.min(left, 9));
            }
            for (int number : new int[] {-9, -6, -4, -1, 0, 1, 2, 8, 9}) {
                long common = Bounds.divisor((long) number * number, trials);
                String sum = number + " of TERM 0, " + trials + " trials";
                Bounds.due("upper of " + sum, x.spread(number, 0, 0, 0, 0, 0), number * number / common);
                Bounds.due("lower of " + sum, x.spread(number, 0, 0, 0, 0, 1), trials / common);
            }
            Bounds.due("widest, upper", x.widest(0), 1);
            Bounds.due("widest, lower", x.widest(1), trials);
        }
    }

    // ---- promise 13

    private static void widestWhat() {
        Bounds.says("promise 13", "what 2: the least SETTING that has it. NONE if .. another what");
        TrialDesk x = Bounds.made(Bounds.tried(Bounds.model(1, 0, 1), 2, 3));
        long[] told = {1, 2, 0};
        for (int what = 0; what <= 2; what++) {
            Bounds.due("what " + what, x.widest(what), told[what]);
        }
        for (int what : new int[] {-1, 3, 4, -2, MAX, MIN}) {
            Bounds.due("what " + what, x.widest(what), NONE);
        }
    }

    private static void widestOfTheUnknown() {
        Bounds.says("promise 13", "NONE if one of these SUMS is not KNOWN");
        int[] terms = {0, 1, 2, 4, 7};
        int[] settings = {7, 1, 2, 4, 0};
        for (int size = 1; size <= 5; size++) {
            TrialDesk x = Bounds.made(Bounds.model(3, java.util.Arrays.copyOf(terms, size)));
            for (int i = 0; i < 5; i++) {
                boolean known = x.about(4) == size;
                Bounds.due("where, RANK " + x.about(4) + " of " + size, x.widest(2) != NONE, known);
                Bounds.due("upper, RANK " + x.about(4) + " of " + size, x.widest(0) != NONE, known);
                Bounds.due("lower, RANK " + x.about(4) + " of " + size, x.widest(1) != NONE, known);
                x.plan(settings[i], 2);
            }
            Bounds.due("RANK at last", x.about(4), size);
            Bounds.due("lower at last", x.widest(1) >= 1, true);
        }
        // what is SEEN does not make it KNOWN
        TrialDesk x = new TrialDesk();
        x.see(0, 1);
        Bounds.due("SEEN but not tried", x.widest(0), NONE);
    }

    private static void widestLeastSetting() {
        Bounds.says("promise 13", "the least SETTING that has it");
        TrialDesk x = Bounds.made(Bounds.tried(Bounds.model(2, 0, 1), 1, 1));
        Bounds.due("all have 1", x.widest(2), 0);
        x.plan(0, 2);
        Bounds.due("1 and 3 have 1", x.widest(2), 1);
        Bounds.due("upper", x.widest(0), 1);
        Bounds.due("lower", x.widest(1), 1);
        x.plan(0, 0);
        x.plan(2, 3);
        x.plan(1, 4);
        Bounds.due("0 and 2 have 1/3", x.widest(2), 0);
        Bounds.due("lower", x.widest(1), 3);
        x = Bounds.made(Bounds.tried(Bounds.model(2, 0, 1, 2), 2, 1, 1));
        // SETTING 3 is 1 + 2 - 0: 1 + 1 + 1/2
        Bounds.due("the last SETTING", x.widest(2), 3);
        Bounds.due("upper", x.widest(0), 5);
        Bounds.due("lower", x.widest(1), 2);
    }

    // ---- promise 14

    private static void neededOfNothing() {
        Bounds.says("promise 14", "How many SETTINGS are tried of which one trial less lowers the RANK. [nothing tried]");
        for (int k = 1; k <= 6; k++) {
            TrialDesk x = new TrialDesk();
            x.factors(k);
            Bounds.due("needed()", x.needed(), 0);
            x.term(1);
            Bounds.due("needed() of two TERMS", x.needed(), 0);
            x.plan(0, 1);
            Bounds.due("needed() of one trial", x.needed(), 1);
            x.clear();
            Bounds.due("needed() behind clear()", x.needed(), 0);
        }
    }

    private static void neededOneTrialLess() {
        Bounds.says("promise 14", "one trial less lowers the RANK");
        TrialDesk x = new TrialDesk();
        for (int n = 0; n <= 9; n++) {
            x.plan(0, n);
            Bounds.due("one SETTING tried " + n + " times", x.needed(), n == 1 ? 1 : 0);
        }
        x.plan(0, 1);
        x.plan(1, 1);
        Bounds.due("TERM 0 alone, two SETTINGS", x.needed(), 0);
        x.term(1);
        Bounds.due("two TERMS, two SETTINGS", x.needed(), 2);
        x.plan(1, 2);
        Bounds.due("one of them twice", x.needed(), 1);
        x.plan(3, 1);
        Bounds.due("one beside it", x.needed(), 1);
        x.plan(2, 1);
        Bounds.due("two of each mark", x.needed(), 0);
        x.term(2);
        x.term(4);
        // 0, 1 (twice), 2, 3: TERM 4 is as TERM 0 there, so three lines of which 0 .. 3 tell more than enough
        Bounds.due("RANK", x.about(4), 3);
        Bounds.due("four SETTINGS, RANK 3", x.needed(), 0);
        x.plan(4, 1);
        Bounds.due("RANK with SETTING 4", x.about(4), 4);
        Bounds.due("SETTING 4 is needed", x.needed(), 1);
        x.plan(4, 2);
        Bounds.due("twice, it is not", x.needed(), 0);
    }

    // ---- promise 15

    private static void bestThatCannotBe() {
        Bounds.says("promise 15", "n trials (0 .. 40) .. false, and nothing is done, if n can't be");
        for (int k = 1; k <= 6; k++) {
            for (int n : new int[] {-1, 41, -2, 42, MAX, MIN}) {
                Bounds.refused("best(" + n + ") at K " + k, Bounds.full(k), x -> Bounds.bit(x.best(n)));
            }
            TrialDesk x = Bounds.made(Bounds.full(k));
            Bounds.due("best(-1)", x.best(-1), false);
            Bounds.due("best(0)", x.best(0), true);
            Bounds.due("trials", x.about(2), 0);
            Bounds.due("best(1)", x.best(1), true);
            Bounds.due("trials", x.about(2), 1);
            Bounds.due("SETTING 0, the first of all with WORTH 0", x.about(100), 1);
            Bounds.due("SEEN stays", x.about(5), 1);
            Bounds.due("WORDS stay", x.alike(0), 2);
            for (int n : new int[] {-1, 41, MAX, MIN}) {
                Bounds.refused("best(" + n + ") behind best(1)", Bounds.and(Bounds.full(k), d -> Bounds.bit(d.best(1))),
                    d -> Bounds.bit(d.best(n)));
            }
            Bounds.isTakenBack("best(0)", Bounds.full(k), d -> Bounds.bit(d.best(0)));
            Bounds.isTakenBack("best(1)", Bounds.full(k), d -> Bounds.bit(d.best(1)));
        }
        Bounds.isTakenBack("best(0) of nothing", x -> { }, x -> Bounds.bit(x.best(0)));
    }

    private static void bestOfTooMany() {
        Bounds.says("promise 15", "false, and nothing is done, .. or there are too many");
        for (int k = 3; k <= 6; k++) {
            int most = MOST_TOLD[k];
            for (int n : new int[] {most + 1, most + 2, 20, 39, 40}) {
                Bounds.refused("best(" + n + ") at K " + k, Bounds.full(k), x -> Bounds.bit(x.best(n)));
            }
            TrialDesk x = Bounds.made(Bounds.full(k));
            Bounds.due("best(" + (most + 1) + ") at K " + k, x.best(most + 1), false);
            Bounds.due("best(" + most + ") at K " + k, x.best(most), true);
            Bounds.due("trials", x.about(2), most);
            Bounds.due("best(" + (most + 1) + ") again", x.best(most + 1), false);
            Bounds.due("trials stay", x.about(2), most);
            Bounds.due("best(" + (most - 1) + ") at K " + k, x.best(most - 1), true);
            Bounds.due("trials", x.about(2), most - 1);
        }
    }

    private static void bestOfNone() {
        Bounds.says("promise 15", "false, and nothing is done, if n can't be [more than 9 trials of each SETTING]");
        for (int k = 1; k <= 2; k++) {
            int most = MOST_TOLD[k];
            for (int n : new int[] {most + 1, most + 2, 39, 40}) {
                Bounds.refused("best(" + n + ") at K " + k, Bounds.full(k), x -> Bounds.bit(x.best(n)));
            }
            TrialDesk x = Bounds.made(Bounds.full(k));
            Bounds.due("best(" + (most + 1) + ")", x.best(most + 1), false);
            Bounds.due("best(" + most + ")", x.best(most), true);
            for (int s = 0; s < 1 << k; s++) {
                Bounds.due("SETTING " + s, x.about(100 + s), 9);
            }
            Bounds.due("best(" + (most - 1) + ")", x.best(most - 1), true);
            Bounds.due("the first: the last SETTING 8 times", x.about(100 + (1 << k) - 1), 8);
        }
    }

    private static void bestFirstOfSeveral() {
        Bounds.says("Terms 2", "ordered by how often SETTING 0 is tried (oftener first), then SETTING 1 ..");
        TrialDesk x = Bounds.made(Bounds.model(2, 0));
        int[][] first = {{0, 0, 0, 0}, {1, 0, 0, 0}, {8, 0, 0, 0}, {9, 0, 0, 0}, {9, 1, 0, 0}, {9, 9, 0, 0}, {9, 9, 1, 0},
            {9, 9, 9, 0}, {9, 9, 9, 1}, {9, 9, 9, 8}, {9, 9, 9, 9}};
        for (int[] times : first) {
            int n = times[0] + times[1] + times[2] + times[3];
            Bounds.due("best(" + n + ")", x.best(n), true);
            Bounds.planIs("best(" + n + ") of TERM 0", x, times);
        }
        // two TERMS: as many of one mark of FACTOR 1 as of the other; those of SETTING 0 first
        x = Bounds.made(Bounds.model(2, 0, 2));
        x.best(2);
        Bounds.planIs("best(2) of the TERMS 0, 2", x, 1, 0, 1, 0);
        x.best(3);
        Bounds.planIs("best(3) of the TERMS 0, 2", x, 2, 0, 1, 0);
        x.best(18);
        Bounds.planIs("best(18) of the TERMS 0, 2", x, 9, 0, 9, 0);
        x.best(19);
        Bounds.planIs("best(19) of the TERMS 0, 2", x, 9, 1, 9, 0);
        x.best(20);
        Bounds.planIs("best(20) of the TERMS 0, 2", x, 9, 1, 9, 1);
        // as many TERMS and trials as ahead, but others
        x.drop(1);
        x.term(1);
        x.best(20);
        Bounds.planIs("best(20) of the TERMS 0, 1", x, 9, 9, 1, 1);
        x.term(3);
        x.drop(0);
        x.best(20);
        Bounds.planIs("best(20) of the TERMS 1, 3", x, 9, 1, 9, 1);
    }

    // ---- promise 16

    private static void bestsThatCannotBe() {
        Bounds.says("promise 16", "NONE likewise [n can't be]");
        for (int k = 1; k <= 6; k++) {
            TrialDesk x = Bounds.made(Bounds.full(k));
            for (int n : new int[] {-1, 41, -2, 42, MAX, MIN}) {
                Bounds.due("bests(" + n + ") at K " + k, x.bests(n), NONE);
            }
            Bounds.due("bests(0) at K " + k, x.bests(0), 1);
            Bounds.due("bests(1) at K " + k, x.bests(1), 1 << k);
            Bounds.due("bests(-1) behind them", x.bests(-1), NONE);
            Bounds.refused("bests(1), which changes nothing", Bounds.full(k), d -> d.bests(1), 1 << k);
        }
    }

    private static void bestsOfTooMany() {
        Bounds.says("Terms 2", "There are at most 20000 of them, else nothing is told of them (NONE)");
        for (int k = 1; k <= 6; k++) {
            int most = MOST_TOLD[k];
            TrialDesk x = new TrialDesk();
            x.factors(k);
            // of TERM 0 alone all PLANS of n trials have the WORTH n
            for (int n = most + 1; n <= 40; n++) {
                Bounds.due("bests(" + n + ") at K " + k, x.bests(n), k <= 2 ? 0 : NONE);
            }
            Bounds.due("bests(" + most + ") at K " + k, x.bests(most), PLANS_TOLD[k]);
            Bounds.due("bests(" + (most + 1) + ") again", x.bests(most + 1), k <= 2 ? 0 : NONE);
            Bounds.due("bests(0) at K " + k, x.bests(0), 1);
        }
        TrialDesk x = new TrialDesk();
        Bounds.due("bests(9) at K 3", x.bests(9), 11440);
        Bounds.due("bests(11) at K 3", x.bests(11), NONE);
        x.factors(2);
        // 364 ways less 4 * 4 with one SETTING beyond 9 times
        Bounds.due("bests(11) at K 2", x.bests(11), 348);
        x.factors(4);
        Bounds.due("bests(4) at K 4", x.bests(4), 3876);
        x.factors(5);
        Bounds.due("bests(2) at K 5", x.bests(2), 528);
    }

    private static void numbersOfPlansNextToTheLimit() {
        Bounds.says("Terms 2", "There are at most 20000 of them [the nearest numbers of PLANS that some K and n have]");
        long nearestBelow = 0;
        long nearestBeyond = Long.MAX_VALUE;
        for (int k = 1; k <= 6; k++) {
            BigInteger[] plans = numbersOfPlans(k);
            TrialDesk x = new TrialDesk();
            x.factors(k);
            for (int n = 0; n <= 40; n++) {
                boolean isTold = plans[n].compareTo(BigInteger.valueOf(20000)) <= 0;
                // of TERM 0 alone all PLANS of n trials have the WORTH n
                Bounds.due("bests(" + n + ") at K " + k, x.bests(n), isTold ? plans[n].intValueExact() : NONE);
                Bounds.due("best(" + n + ") at K " + k, x.best(n), isTold && plans[n].signum() > 0);
                if (isTold) {
                    nearestBelow = Math.max(nearestBelow, plans[n].longValueExact());
                } else if (plans[n].bitLength() < 63) {
                    nearestBeyond = Math.min(nearestBeyond, plans[n].longValueExact());
                }
            }
        }
        Bounds.due("the greatest number that is told", nearestBelow, 19440);
        Bounds.due("the least number that is not", nearestBeyond, 31760);
        TrialDesk x = new TrialDesk();
        Bounds.due("19440 PLANS", x.bests(10), 19440);
        Bounds.due("31760 PLANS", x.bests(11), NONE);
        Bounds.due("best of 19440 PLANS", x.best(10), true);
        Bounds.planIs("best(10)", x, 9, 1, 0, 0, 0, 0, 0, 0);
        Bounds.refused("best of 31760 PLANS", d -> d.best(10), d -> Bounds.bit(d.best(11)));
    }

    /** For 0 .. 40 trials how many PLANS there are: one SETTING behind the other, 0 .. 9 trials each. */
    private static BigInteger[] numbersOfPlans(int k) {
        BigInteger[] plans = new BigInteger[41];
        Arrays.fill(plans, BigInteger.ZERO);
        plans[0] = BigInteger.ONE;
        for (int s = 0; s < 1 << k; s++) {
            BigInteger[] more = new BigInteger[41];
            for (int n = 0; n <= 40; n++) {
                more[n] = BigInteger.ZERO;
                for (int here = 0; here <= Math.min(9, n); here++) {
                    more[n] = more[n].add(plans[n - here]);
                }
            }
            plans = more;
        }
        return plans;
    }

    private static void nineTimesHereToo() {
        Bounds.says("Terms 2", "a SETTING may be tried 9 times at most here, too");
        TrialDesk x = new TrialDesk();
        x.factors(1);
        for (int n = 0; n <= 20; n++) {
            int want = n <= 9 ? n + 1 : Math.max(19 - n, 0);
            Bounds.due("bests(" + n + ") of TERM 0", x.bests(n), want);
            Bounds.due("best(" + n + ") of TERM 0", x.best(n), n <= 18);
            Bounds.due("SETTING 0", x.about(100), Math.min(n, 9));
            Bounds.due("SETTING 1", x.about(101), Math.min(Math.max(n - 9, 0), 9));
        }
        x.term(1);
        for (int n = 1; n <= 18; n++) {
            // half of each mark is best; an odd number leaves one for either
            Bounds.due("bests(" + n + ") of both TERMS", x.bests(n), n % 2 == 0 ? 1 : 2);
            x.best(n);
            Bounds.planIs("best(" + n + ") of both TERMS", x, (n + 1) / 2, n / 2);
        }
    }

    // ---- promise 17

    private static void swapThatDoesNotRaise() {
        Bounds.says("promise 17", "THE SWAP is done, if it raises the WORTH: true; else false, and nothing is done.");
        Bounds.Steps both = Bounds.model(1, 0, 1);
        int[][] stay = {{0, 0}, {1, 0}, {0, 1}, {1, 1}, {2, 1}, {1, 2}, {5, 4}, {4, 5}, {9, 8}, {8, 9}, {9, 9}};
        for (int[] times : stay) {
            Bounds.refused("swap() of " + times[0] + ", " + times[1], Bounds.tried(both, times), x -> Bounds.bit(x.swap()));
        }
        int[][] move = {{2, 0, 1, 1}, {0, 2, 1, 1}, {9, 0, 8, 1}, {3, 1, 2, 2}, {1, 3, 2, 2}, {9, 7, 8, 8}, {6, 9, 7, 8}};
        for (int[] m : move) {
            Bounds.done("swap() of " + m[0] + ", " + m[1], Bounds.tried(both, m[0], m[1]), x -> Bounds.bit(x.swap()), 1,
                Bounds.tried(both, m[2], m[3]));
        }
        for (int k = 1; k <= 6; k++) {
            int count = k;
            Bounds.refused("swap() of TERM 0 alone", x -> {
                x.factors(count);
                x.plan(0, 9);
                x.plan(1, 3);
            }, x -> Bounds.bit(x.swap()));
        }
        // a SWAP from WORTH 0 to WORTH 0 does not raise it
        Bounds.refused("swap() of two for three TERMS", Bounds.tried(Bounds.model(2, 0, 1, 2), 1, 1), x -> Bounds.bit(x.swap()));
    }

    private static void swapOfWhatIsTried() {
        Bounds.says("Terms 2", "of one SETTING that is tried a trial less");
        TrialDesk x = Bounds.made(Bounds.tried(Bounds.model(2, 0, 1), 0, 0, 3, 1));
        Bounds.due("swap()", x.swap(), true);
        Bounds.planIs("0 is not tried, 2 is", x, 0, 1, 2, 1);
        x = Bounds.made(Bounds.tried(Bounds.model(2, 0, 1), 1, 0, 2, 0));
        Bounds.due("swap()", x.swap(), true);
        Bounds.planIs("the only trial of 0 goes", x, 0, 1, 2, 0);
        x = Bounds.made(Bounds.tried(Bounds.model(3, 0, 1), 9, 1, 9, 0, 9, 0, 9, 3));
        Bounds.due("swap() with 40 trials", x.swap(), true);
        Bounds.planIs("40 trials stay", x, 8, 2, 9, 0, 9, 0, 9, 3);
    }

    private static void swapToLessThanNine() {
        Bounds.says("Terms 2", "of another one (tried less than 9 times) a trial more");
        TrialDesk x = Bounds.made(Bounds.tried(Bounds.model(2, 0, 1), 9, 8, 9, 0));
        Bounds.due("swap()", x.swap(), true);
        Bounds.planIs("1 is tried 8 times", x, 8, 9, 9, 0);
        Bounds.due("swap()", x.swap(), true);
        Bounds.planIs("1 is tried 9 times: 3", x, 7, 9, 9, 1);
        x = Bounds.made(Bounds.tried(Bounds.model(2, 0, 1), 9, 9, 9, 8));
        Bounds.refused("18 and 17", Bounds.tried(Bounds.model(2, 0, 1), 9, 9, 9, 8), d -> Bounds.bit(d.swap()));
        x.plan(3, 6);
        Bounds.due("18 and 15", x.swap(), true);
        Bounds.planIs("18 and 15", x, 8, 9, 9, 7);
        Bounds.refused("all are tried 9 times", Bounds.tried(Bounds.model(2, 0, 1), 9, 9, 9, 9), d -> Bounds.bit(d.swap()));
    }

    private static void swapFirstOfSeveral() {
        Bounds.says("Terms 2", "of several the first by the one that is left, then by the other");
        TrialDesk x = Bounds.made(Bounds.tried(Bounds.model(2, 0, 1), 0, 3, 0, 3));
        Bounds.due("swap()", x.swap(), true);
        Bounds.planIs("1 is left for 0", x, 1, 2, 0, 3);
        Bounds.due("swap()", x.swap(), true);
        Bounds.planIs("1 is left for 0 again", x, 2, 1, 0, 3);
        Bounds.due("swap()", x.swap(), true);
        Bounds.planIs("and again", x, 3, 0, 0, 3);
        Bounds.due("swap()", x.swap(), false);
        x = Bounds.made(Bounds.tried(Bounds.model(2, 0, 1, 2), 2, 2, 0, 0));
        Bounds.due("swap()", x.swap(), true);
        Bounds.planIs("0 is left for 2", x, 1, 2, 1, 0);
        Bounds.due("swap()", x.swap(), true);
        Bounds.planIs("1 is left for 3", x, 1, 1, 1, 1);
        Bounds.due("swap()", x.swap(), false);
        // without TERM 0: 0 and 3 are of one kind for the TERMS 1, 2, and so are 1 and 2
        x = Bounds.made(Bounds.tried(Bounds.model(2, 1, 2), 0, 2, 0, 2));
        Bounds.due("swap() of two and two", x.swap(), false);
        x.plan(3, 4);
        Bounds.due("swap() of two and four", x.swap(), true);
        Bounds.planIs("3 is left for 1", x, 0, 3, 0, 3);
    }

    // ---- promise 18

    private static void nextBelowNine() {
        Bounds.says("promise 18", "(one that is tried less than 9 times); NONE if there is none");
        TrialDesk x = Bounds.made(Bounds.tried(Bounds.model(1, 0), 8));
        Bounds.due("SETTING 0 is tried 8 times", x.next(), 0);
        x.plan(0, 9);
        Bounds.due("SETTING 0 is tried 9 times", x.next(), 1);
        x.plan(1, 8);
        Bounds.due("9 and 8", x.next(), 1);
        x.plan(1, 9);
        Bounds.due("9 and 9", x.next(), NONE);
        x.plan(0, 8);
        Bounds.due("8 and 9", x.next(), 0);
        x = Bounds.made(Bounds.tried(Bounds.model(2, 0, 1), 9, 9, 9, 8));
        Bounds.due("one of 36 is left", x.next(), 3);
        x.plan(3, 9);
        Bounds.due("none of 36 is left", x.next(), NONE);
        Bounds.refused("next(), which changes nothing", Bounds.full(3), d -> d.next(), 1);
    }

    private static void nextBelowForty() {
        Bounds.says("promise 18", "or 40 are tried");
        TrialDesk x = Bounds.made(Bounds.tried(Bounds.model(3, 0), 9, 9, 9, 9, 2));
        Bounds.due("38 are tried", x.next(), 4);
        x.plan(4, 3);
        Bounds.due("39 are tried", x.next(), 4);
        x.plan(7, 1);
        Bounds.due("40 are tried", x.next(), NONE);
        x.plan(0, 8);
        Bounds.due("39 are tried again", x.next(), 0);
        x.term(1);
        // 29 with mark -1 stand against 11 with mark 1
        x.plan(0, 9);
        Bounds.due("40 are tried, another MODEL", x.next(), NONE);
    }

    private static void nextOfSeveral() {
        Bounds.says("promise 18", "The least SETTING with one trial more of which the WORTH is greatest");
        for (int k = 1; k <= 6; k++) {
            TrialDesk x = new TrialDesk();
            x.factors(k);
            Bounds.due("of nothing", x.next(), 0);
            x.term(1);
            Bounds.due("of nothing, two TERMS: all are worth 0", x.next(), 0);
            x.plan(0, 1);
            Bounds.due("the other mark", x.next(), 1);
            x.plan(1, 1);
            Bounds.due("all are alike", x.next(), 0);
            x.plan(0, 2);
            Bounds.due("the other mark again", x.next(), 1);
            int last = (1 << k) - 1;
            x.plan(0, 0);
            x.plan(1, 0);
            x.drop(1);
            x.term(last);
            x.plan(last, 3);
            Bounds.due("the first with the other mark", x.next(), k % 2 == 0 ? 1 : 0);
        }
    }
}
