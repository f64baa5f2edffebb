/** The bounds of the promises 1 to 9: on each bound, next to it on either side, and the calls behind it. */
public final class BoundsOfModelTest {
    private static final int MAX = Bounds.MAX;
    private static final int MIN = Bounds.MIN;
    private static final int NONE = Bounds.NONE;

    public static void main(String[] args) {
        aNewObject();
        factorsThatCanBe();
        factorsThatCannotBe();
        changingFactors();
        termNoneSuch();
        termThatTheModelHas();
        termBeyondFive();
        modelChangesLeaveAllElse();
        dropNoneSuch();
        dropTheOnlyOne();
        planNoneSuch();
        planTimes();
        planBeyondForty();
        clearOfNothing();
        clearOfForty();
        aboutNumbers();
        aboutTerms();
        aboutSettings();
        aboutRank();
        markNoneSuch();
        tableNoneSuch();
        tableOnItsBounds();
        Bounds.end();
    }

    // ---- promise 1

    private static void aNewObject() {
        Bounds.says("promise 1", "Three FACTORS, TERM 0, nothing tried or SEEN.");
        TrialDesk x = new TrialDesk();
        Bounds.due("K", x.about(0), 3);
        Bounds.modelIs("a new object", x, 0);
        Bounds.planIs("a new object", x, 0, 0, 0, 0, 0, 0, 0, 0);
        Bounds.due("SETTING 8", x.about(108), NONE);
        Bounds.due("SETTINGS that are tried", x.about(3), 0);
        Bounds.due("RANK", x.about(4), 0);
        Bounds.due("SEEN", x.about(5), 0);
        Bounds.productsAre("a new object", x, 0);
        Bounds.due("undo()", x.undo(), false);
        Bounds.same("as with factors(3)", d -> { }, d -> d.factors(3), 0);
        Bounds.same("two new objects share nothing", d -> { }, d -> Bounds.full(3).on(new TrialDesk()), 9);
    }

    // ---- promise 2

    private static void factorsThatCanBe() {
        Bounds.says("promise 2", "There are k FACTORS; THE MODEL is TERM 0 alone, nothing is tried or SEEN, there are no WORDS");
        for (int k = 1; k <= 6; k++) {
            int count = k;
            TrialDesk x = Bounds.made(d -> d.factors(count));
            int last = (1 << k) - 1;
            Bounds.due("K", x.about(0), k);
            Bounds.modelIs("factors(" + k + ")", x, 0);
            Bounds.due("trials", x.about(2), 0);
            Bounds.due("SEEN", x.about(5), 0);
            Bounds.due("the last SETTING", x.about(100 + last), 0);
            Bounds.due("the SETTING behind the last", x.about(100 + last + 1), NONE);
            Bounds.productsAre("factors(" + k + ")", x, 0);
            Bounds.due("the last TERM", x.term(last), 2);
            Bounds.due("plan() of the last SETTING", x.plan(last, 9), true);
            Bounds.due("the last WORD", x.word(3, last, 1), true);
        }
    }

    private static void factorsThatCannotBe() {
        Bounds.says("promise 2", "false, and nothing is done, if k is not 1 .. 6");
        for (int k : new int[] {0, 7, -1, 8, MAX, MIN}) {
            Bounds.refused("factors(" + k + ") of a new object", x -> { }, x -> Bounds.bit(x.factors(k)));
            for (int had = 1; had <= 6; had++) {
                Bounds.refused("factors(" + k + ") at K " + had, Bounds.full(had), x -> Bounds.bit(x.factors(k)));
            }
        }
    }

    private static void changingFactors() {
        Bounds.says("Terms 1", "Changing K: nothing is tried or SEEN, no WORDS.");
        for (int had = 1; had <= 6; had++) {
            for (int k = 1; k <= 6; k++) {
                int count = k;
                Bounds.done("factors(" + k + ") at K " + had, Bounds.full(had), x -> Bounds.bit(x.factors(count)), 1,
                    x -> x.factors(count));
            }
        }
        for (int k = 1; k <= 6; k++) {
            int count = k;
            Bounds.done("factors(" + k + ") of a MODEL without TERM 0", Bounds.model(3, 7, 5), x -> Bounds.bit(x.factors(count)), 1,
                x -> x.factors(count));
        }
        TrialDesk x = Bounds.made(Bounds.full(6));
        x.factors(2);
        Bounds.due("a TERM of 6 FACTORS is none of 2", x.term(63), NONE);
        Bounds.due("a SETTING of 6 FACTORS is none of 2", x.plan(63, 1), false);
        x.factors(6);
        Bounds.due("what was tried does not come again", x.about(163), 0);
        Bounds.due("the WORD of 6 FACTORS does not come again", x.word(0, 63, 1), true);
    }

    // ---- promise 3

    private static void termNoneSuch() {
        Bounds.says("promise 3", "NONE, and nothing is done: there is none such");
        for (int k = 1; k <= 6; k++) {
            int count = k;
            int all = 1 << k;
            for (int t : new int[] {-1, all, all + 1, -all, 64, MAX, MIN}) {
                Bounds.refused("term(" + t + ") at K " + k, x -> x.factors(count), x -> x.term(t), NONE);
                Bounds.refused("term(" + t + ") at K " + k, Bounds.full(k), x -> x.term(t), NONE);
            }
            TrialDesk x = Bounds.made(d -> d.factors(count));
            Bounds.due("term(" + all + ")", x.term(all), NONE);
            Bounds.due("term(" + (all - 1) + ")", x.term(all - 1), 2);
            Bounds.modelIs("term(" + (all - 1) + ")", x, 0, all - 1);
            Bounds.due("drop(0)", x.drop(0), true);
            Bounds.due("term(0)", x.term(0), 2);
            Bounds.modelIs("term(0)", x, all - 1, 0);
        }
    }

    private static void termThatTheModelHas() {
        Bounds.says("promise 3", "NONE, and nothing is done: .. it has it");
        int[] terms = {6, 0, 3, 7};
        Bounds.Steps ahead = x -> {
            x.term(6);
            x.drop(0);
            x.term(0);
            x.term(3);
            x.term(7);
        };
        Bounds.modelIs("term()", Bounds.made(ahead), terms);
        for (int t : terms) {
            Bounds.refused("term(" + t + ")", ahead, x -> x.term(t), NONE);
        }
        for (int t : new int[] {1, 2, 4, 5}) {
            Bounds.due("term(" + t + ")", Bounds.made(ahead).term(t), 5);
        }
        TrialDesk x = Bounds.made(d -> d.factors(1));
        Bounds.due("term(1) of two TERMS", x.term(1), 2);
        Bounds.due("term(0): all are there", x.term(0), NONE);
        Bounds.due("term(1): all are there", x.term(1), NONE);
        x.drop(1);
        Bounds.due("term(1) when it is gone", x.term(1), 2);
    }

    private static void termBeyondFive() {
        Bounds.says("promise 3", "NONE, and nothing is done: .. or there are 5");
        TrialDesk x = new TrialDesk();
        for (int t = 1; t <= 4; t++) {
            Bounds.due("term(" + t + ")", x.term(t), t + 1);
        }
        Bounds.due("term(5)", x.term(5), NONE);
        Bounds.modelIs("five", x, 0, 1, 2, 3, 4);
        Bounds.due("drop(2)", x.drop(2), true);
        Bounds.due("term(5) of four", x.term(5), 5);
        Bounds.due("term(2) of five", x.term(2), NONE);
        Bounds.modelIs("five again", x, 0, 1, 3, 4, 5);
        Bounds.due("undo()", x.undo(), true);
        Bounds.due("term(7) of four", x.term(7), 5);
        for (int t = 0; t <= 8; t++) {
            int more = t;
            Bounds.refused("term(" + t + ") of five", Bounds.model(3, 0, 1, 2, 3, 4), d -> d.term(more), NONE);
        }
    }

    private static void modelChangesLeaveAllElse() {
        Bounds.says("Terms 1", "Changing THE MODEL leaves all else.");
        for (int k = 2; k <= 6; k++) {
            TrialDesk x = Bounds.made(Bounds.full(k));
            int last = (1 << k) - 1;
            x.term(1);
            x.drop(0);
            Bounds.modelIs("another MODEL", x, last, 1);
            Bounds.due("K", x.about(0), k);
            Bounds.due("trials", x.about(2), 3);
            Bounds.due("SETTING 0", x.about(100), 2);
            Bounds.due("the last SETTING", x.about(100 + last), 1);
            Bounds.due("SEEN", x.about(5), 1);
            Bounds.due("WEIGHT at the last SETTING", x.weight(1, 1, 0, 0, 0, 0), -30);
            Bounds.productsAre("another MODEL", x, 0, last);
        }
    }

    // ---- promise 4

    private static void dropNoneSuch() {
        Bounds.says("promise 4", "false if there is none such");
        int[] terms = {0, 7, 2, 5, 1};
        for (int size = 1; size <= 5; size++) {
            int[] some = java.util.Arrays.copyOf(terms, size);
            Bounds.Steps ahead = Bounds.model(3, some);
            for (int i : new int[] {-1, size, size + 1, 5, MAX, MIN}) {
                Bounds.refused("drop(" + i + ") of " + size, ahead, x -> Bounds.bit(x.drop(i)));
            }
            for (int i = 0; size > 1 && i < size; i++) {
                int gone = i;
                int[] others = new int[size - 1];
                for (int j = 0; j < size - 1; j++) {
                    others[j] = some[j < i ? j : j + 1];
                }
                TrialDesk x = Bounds.made(ahead);
                Bounds.due("drop(" + i + ")", x.drop(i), true);
                Bounds.modelIs("drop(" + i + ") of " + size, x, others);
                Bounds.isTakenBack("drop(" + i + ")", ahead, d -> Bounds.bit(d.drop(gone)));
            }
        }
    }

    private static void dropTheOnlyOne() {
        Bounds.says("promise 4", "or it is the only one");
        Bounds.refused("drop(0) of TERM 0", x -> { }, x -> Bounds.bit(x.drop(0)));
        for (int t = 1; t < 8; t++) {
            int only = t;
            Bounds.refused("drop(0) of TERM " + t, Bounds.model(3, t), x -> Bounds.bit(x.drop(0)));
            TrialDesk x = Bounds.made(Bounds.model(3, t));
            x.drop(0);
            Bounds.due("a TERM behind the only one", x.term(0), 2);
            Bounds.due("drop(0) of two", x.drop(0), true);
            Bounds.modelIs("one is left", x, 0);
            Bounds.due("drop(0) of one", x.drop(0), false);
            Bounds.due("term(" + only + ")", x.term(only), 2);
        }
    }

    // ---- promise 5

    private static void planNoneSuch() {
        Bounds.says("promise 5", "False, and nothing is done: none such");
        for (int k = 1; k <= 6; k++) {
            int all = 1 << k;
            for (int s : new int[] {-1, all, all + 1, -all, 64, MAX, MIN}) {
                Bounds.refused("plan(" + s + ", 1) at K " + k, Bounds.full(k), x -> Bounds.bit(x.plan(s, 1)));
                Bounds.refused("plan(" + s + ", 0) at K " + k, Bounds.full(k), x -> Bounds.bit(x.plan(s, 0)));
            }
            for (int s : new int[] {0, all - 1}) {
                TrialDesk x = Bounds.made(Bounds.full(k));
                Bounds.due("plan(" + s + ", 5)", x.plan(s, 5), true);
                Bounds.due("SETTING " + s, x.about(100 + s), 5);
                Bounds.due("trials", x.about(2), s == 0 ? 6 : 7);
                Bounds.due("SETTINGS that are tried", x.about(3), 2);
                Bounds.isTakenBack("plan(" + s + ", 5)", Bounds.full(k), d -> Bounds.bit(d.plan(s, 5)));
            }
        }
    }

    private static void planTimes() {
        Bounds.says("promise 5", "False, and nothing is done: .. n is not 0 .. 9");
        for (int n : new int[] {-1, 10, 11, -9, MAX, MIN}) {
            Bounds.refused("plan(3, " + n + ") of nothing", x -> { }, x -> Bounds.bit(x.plan(3, n)));
            Bounds.refused("plan(0, " + n + ")", Bounds.full(3), x -> Bounds.bit(x.plan(0, n)));
            Bounds.refused("plan(7, " + n + ")", Bounds.full(3), x -> Bounds.bit(x.plan(7, n)));
        }
        for (int n = 0; n <= 9; n++) {
            int times = n;
            TrialDesk x = new TrialDesk();
            Bounds.due("plan(3, " + n + ")", x.plan(3, n), true);
            Bounds.planIs("plan(3, " + n + ")", x, 0, 0, 0, n, 0, 0, 0, 0);
            Bounds.due("SETTINGS that are tried", x.about(3), n == 0 ? 0 : 1);
            Bounds.isTakenBack("plan(3, " + n + ")", d -> { }, d -> Bounds.bit(d.plan(3, times)));
            Bounds.due("plan(3, 10)", x.plan(3, 10), false);
            Bounds.due("plan(3, " + (9 - n) + ")", x.plan(3, 9 - n), true);
            Bounds.planIs("not more, but so many", x, 0, 0, 0, 9 - n, 0, 0, 0, 0);
        }
    }

    private static void planBeyondForty() {
        Bounds.says("promise 5", "False, and nothing is done: .. or there would be more than 40 trials");
        Bounds.Steps thirtySix = Bounds.tried(x -> { }, 9, 9, 9, 9);
        for (int n = 5; n <= 9; n++) {
            int times = n;
            Bounds.refused("plan(4, " + n + ") with 36", thirtySix, x -> Bounds.bit(x.plan(4, times)));
        }
        TrialDesk x = Bounds.made(thirtySix);
        Bounds.due("plan(4, 5): 41", x.plan(4, 5), false);
        Bounds.due("plan(4, 3): 39", x.plan(4, 3), true);
        Bounds.due("plan(5, 2): 41", x.plan(5, 2), false);
        Bounds.due("plan(5, 1): 40", x.plan(5, 1), true);
        Bounds.planIs("40", x, 9, 9, 9, 9, 3, 1, 0, 0);
        Bounds.Steps forty = Bounds.tried(d -> { }, 9, 9, 9, 9, 3, 1);
        Bounds.refused("plan(6, 1) with 40", forty, d -> Bounds.bit(d.plan(6, 1)));
        Bounds.refused("plan(4, 4) with 40", forty, d -> Bounds.bit(d.plan(4, 4)));
        Bounds.refused("plan(5, 9) with 40", forty, d -> Bounds.bit(d.plan(5, 9)));
        Bounds.due("plan(6, 0) with 40", x.plan(6, 0), true);
        Bounds.due("plan(5, 1) with 40: the same again", x.plan(5, 1), true);
        Bounds.due("plan(0, 9) with 40: the same again", x.plan(0, 9), true);
        Bounds.due("plan(0, 8)", x.plan(0, 8), true);
        Bounds.due("plan(7, 2): 41", x.plan(7, 2), false);
        Bounds.due("plan(7, 1): 40", x.plan(7, 1), true);
        Bounds.due("plan(0, 9): 41", x.plan(0, 9), false);
        Bounds.planIs("40 again", x, 8, 9, 9, 9, 3, 1, 0, 1);
        fortyOfManySettings();
    }

    private static void fortyOfManySettings() {
        TrialDesk x = new TrialDesk();
        x.factors(6);
        for (int s = 63; s >= 24; s--) {
            Bounds.due("plan(" + s + ", 1)", x.plan(s, 1), true);
        }
        Bounds.due("trials", x.about(2), 40);
        Bounds.due("SETTINGS that are tried", x.about(3), 40);
        for (int s = 0; s < 64; s++) {
            Bounds.due("plan(" + s + ", 2)", x.plan(s, 2), false);
        }
        Bounds.due("trials", x.about(2), 40);
        TrialDesk small = new TrialDesk();
        small.factors(2);
        for (int s = 0; s < 4; s++) {
            Bounds.due("plan(" + s + ", 9) at K 2", small.plan(s, 9), true);
        }
        Bounds.due("all are tried 9 times", small.about(2), 36);
    }

    // ---- promise 6

    private static void clearOfNothing() {
        Bounds.says("promise 6", "Nothing is tried.");
        Bounds.Call clear = x -> {
            x.clear();
            return 0;
        };
        Bounds.same("clear() of nothing", x -> { }, x -> x.clear(), 0);
        Bounds.isTakenBack("clear() of nothing", x -> { }, clear);
        for (int k = 1; k <= 6; k++) {
            TrialDesk x = Bounds.made(Bounds.full(k));
            x.clear();
            for (int s = 0; s < 1 << k; s++) {
                Bounds.due("SETTING " + s, x.about(100 + s), 0);
            }
            Bounds.due("trials", x.about(2), 0);
            Bounds.due("SETTINGS that are tried", x.about(3), 0);
            Bounds.due("RANK", x.about(4), 0);
            Bounds.due("TERMS stay", x.about(1), 2);
            Bounds.due("SEEN stays", x.about(5), 1);
            Bounds.due("WORDS stay", x.alike(0), 2);
            Bounds.isTakenBack("clear()", Bounds.full(k), clear);
        }
    }

    private static void clearOfForty() {
        Bounds.says("promise 6", "Nothing is tried. [of 40 trials]");
        TrialDesk x = Bounds.made(Bounds.tried(d -> { }, 9, 9, 9, 9, 4));
        Bounds.due("plan(5, 1) with 40", x.plan(5, 1), false);
        x.clear();
        Bounds.due("plan(5, 9) with none", x.plan(5, 9), true);
        Bounds.planIs("clear(), plan(5, 9)", x, 0, 0, 0, 0, 0, 9, 0, 0);
        x.undo();
        x.undo();
        Bounds.planIs("clear() taken back", x, 9, 9, 9, 9, 4, 0, 0, 0);
        Bounds.due("plan(5, 1) with 40 again", x.plan(5, 1), false);
    }

    // ---- promise 7

    private static void aboutNumbers() {
        Bounds.says("promise 7", "What 0 K, 1 TERMS, 2 trials, 3 SETTINGS that are tried, 4 RANK, 5 how many were SEEN .. NONE if there is none such.");
        TrialDesk x = Bounds.made(Bounds.full(4));
        long[] numbers = {4, 2, 3, 2, 1, 1};
        for (int what = 0; what <= 5; what++) {
            Bounds.due("about(" + what + ")", x.about(what), numbers[what]);
        }
        for (int what : new int[] {-1, 6, 7, 8, 9, -2, -10, -100, 15, 99, 164, MAX, MIN}) {
            Bounds.due("about(" + what + ")", x.about(what), NONE);
        }
    }

    private static void aboutTerms() {
        Bounds.says("promise 7", "10 + i THE MODEL's TERM i .. NONE if there is none such.");
        int[] terms = {0, 32, 63, 1, 33};
        for (int size = 1; size <= 5; size++) {
            TrialDesk x = Bounds.made(Bounds.model(6, java.util.Arrays.copyOf(terms, size)));
            Bounds.due("about(9)", x.about(9), NONE);
            for (int i = 0; i <= 6; i++) {
                Bounds.due("about(1" + i + ") of " + size, x.about(10 + i), i < size ? terms[i] : NONE);
            }
        }
        TrialDesk x = Bounds.made(Bounds.model(6, terms));
        x.drop(4);
        Bounds.due("a TERM that is gone", x.about(14), NONE);
    }

    private static void aboutSettings() {
        Bounds.says("promise 7", "100 + s how often SETTING s is tried. NONE if there is none such.");
        for (int k = 1; k <= 6; k++) {
            int all = 1 << k;
            TrialDesk x = new TrialDesk();
            x.factors(k);
            x.plan(0, 9);
            x.plan(all - 1, 8);
            Bounds.due("about(99)", x.about(99), NONE);
            Bounds.due("about(100)", x.about(100), 9);
            for (int s = 1; s < all - 1; s++) {
                Bounds.due("about(" + (100 + s) + ")", x.about(100 + s), 0);
            }
            Bounds.due("about(" + (99 + all) + ")", x.about(99 + all), 8);
            Bounds.due("about(" + (100 + all) + ")", x.about(100 + all), NONE);
            Bounds.due("about(164)", x.about(164), NONE);
        }
    }

    private static void aboutRank() {
        Bounds.says("Terms 1", "RANK: how many of its lines there are at most of which none is a sum of multiples of the others.");
        TrialDesk x = Bounds.made(Bounds.model(3, 0, 1, 2, 4, 7));
        // SETTINGS 0 .. 3 leave TERM 4 as TERM 0 with another mark, and TERM 7 as TERM 3 likewise
        int[] ranks = {0, 1, 2, 3, 4, 5, 5, 5, 5};
        Bounds.due("RANK of nothing", x.about(4), ranks[0]);
        for (int s = 0; s < 8; s++) {
            x.plan(s, s % 3 + 1);
            Bounds.due("RANK of SETTINGS 0 .. " + s, x.about(4), ranks[s + 1]);
        }
        for (int i = 4; i > 0; i--) {
            x.drop(i);
            Bounds.due("RANK of " + i + " TERMS", x.about(4), i);
        }
        x = Bounds.made(Bounds.model(3, 4, 0, 7, 3));
        x.plan(0, 1);
        x.plan(1, 1);
        Bounds.due("RANK, the lines are alike two by two", x.about(4), 2);
        x.plan(1, 0);
        Bounds.due("RANK of one SETTING", x.about(4), 1);
        x.plan(0, 0);
        Bounds.due("RANK of none", x.about(4), 0);
    }

    // ---- promise 8

    private static void markNoneSuch() {
        Bounds.says("promise 8", "1, -1; 0 if there is none such");
        for (int k = 1; k <= 6; k++) {
            int all = 1 << k;
            TrialDesk x = new TrialDesk();
            x.factors(k);
            for (int no : new int[] {-1, all, all + 1, -all, 64, MAX, MIN}) {
                Bounds.due("mark(" + no + ", 0) at K " + k, x.mark(no, 0), 0);
                Bounds.due("mark(0, " + no + ") at K " + k, x.mark(0, no), 0);
                Bounds.due("mark(" + no + ", " + no + ") at K " + k, x.mark(no, no), 0);
                Bounds.due("mark(" + (all - 1) + ", " + no + ") at K " + k, x.mark(all - 1, no), 0);
            }
            Bounds.due("mark(0, 0)", x.mark(0, 0), 1);
            Bounds.due("mark(0, last)", x.mark(0, all - 1), 1);
            Bounds.due("mark(last, last)", x.mark(all - 1, all - 1), 1);
            Bounds.due("mark(last, 0) at K " + k, x.mark(all - 1, 0), k % 2 == 0 ? 1 : -1);
            Bounds.due("mark(last, last but one)", x.mark(all - 1, all - 2), -1);
            for (int f = 0; f < k; f++) {
                Bounds.due("FACTOR " + f + " at its own SETTING", x.mark(1 << f, 1 << f), 1);
                Bounds.due("FACTOR " + f + " at all others", x.mark(1 << f, all - 1 - (1 << f)), -1);
            }
        }
    }

    // ---- promise 9

    private static void tableNoneSuch() {
        Bounds.says("promise 9", "-1000 if there are none such");
        int[] terms = {0, 1, 2, 4, 7};
        for (int size = 1; size <= 5; size++) {
            TrialDesk x = Bounds.made(Bounds.tried(Bounds.model(3, java.util.Arrays.copyOf(terms, size)), 1, 1, 1, 1, 1, 1, 1, 1));
            for (int i = -1; i <= 6; i++) {
                for (int j = -1; j <= 6; j++) {
                    boolean are = i >= 0 && i < size && j >= 0 && j < size;
                    Bounds.due("table(" + i + ", " + j + ") of " + size, x.table(i, j), are ? i == j ? 8 : 0 : -1000);
                }
            }
            for (int no : new int[] {MAX, MIN}) {
                Bounds.due("table(" + no + ", 0)", x.table(no, 0), -1000);
                Bounds.due("table(0, " + no + ")", x.table(0, no), -1000);
            }
        }
    }

    private static void tableOnItsBounds() {
        Bounds.says("promise 9", "The TABLE's number for THE MODEL's TERMS i, j");
        TrialDesk x = Bounds.made(Bounds.model(3, 0, 1, 2));
        Bounds.due("of nothing", x.table(1, 2), 0);
        for (int s = 0; s < 8; s += 2) {
            x.plan(s, 9);
        }
        x.plan(0, 9);
        x.plan(1, 4);
        Bounds.due("40 trials, TERM 0 by itself", x.table(0, 0), 40);
        Bounds.due("40 trials, TERM 1 by itself", x.table(1, 1), 40);
        Bounds.due("TERM 0 by TERM 1", x.table(0, 1), -32);
        Bounds.due("TERM 1 by TERM 0", x.table(1, 0), -32);
        x.plan(1, 0);
        x.plan(2, 0);
        x.plan(6, 0);
        Bounds.due("the least", x.table(0, 1), -18);
        Bounds.due("the greatest", x.table(0, 0), 18);
        x = Bounds.made(Bounds.tried(Bounds.model(2, 3, 1), 9, 9));
        Bounds.due("without TERM 0, both are 1 or -1", x.table(0, 1), -18);
        x.plan(3, 9);
        Bounds.due("without TERM 0, 3 by 1", x.table(1, 0), -9);
        Bounds.due("without TERM 0, 3 by itself", x.table(0, 0), 27);
    }
}
