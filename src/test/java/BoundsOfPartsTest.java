/** The bounds of the promises 19 to 26: on each bound, next to it on either side, and the calls behind it. */
public final class BoundsOfPartsTest {
    private static final int MAX = Bounds.MAX;
    private static final int MIN = Bounds.MIN;
    private static final int NONE = Bounds.NONE;

    public static void main(String[] args) {
        wordPlaces();
        wordTerms();
        wordMarks();
        wordNone();
        wordProductOfOthers();
        wordsAtFirst();
        partTimes();
        partBeyondForty();
        partInThePlaceOfThePlan();
        alikeNoneSuch();
        alikeOfNoneSuch();
        alikeOfBeyondTheLast();
        lengthWhat();
        lengthWithoutWords();
        lengthOnItsBounds();
        bestPartThatCannotBe();
        bestPartWords();
        bestPartOfAllFactors();
        chainBeyondTwelve();
        chainOfFew();
        chainOfNoneSuch();
        chainOfBeyondTwelve();
        chainsFirstOfSeveral();
        Bounds.end();
    }

    // ---- promise 19

    private static void wordPlaces() {
        Bounds.says("promise 19", "WORD i (0 .. 3) .. false, and nothing is done, if that can't be");
        for (int i : new int[] {-1, 4, 5, -4, MAX, MIN}) {
            Bounds.refused("word(" + i + ", 1, 1)", Bounds.full(3), x -> Bounds.bit(x.word(i, 1, 1)));
            Bounds.refused("word(" + i + ", 0, 1)", Bounds.full(3), x -> Bounds.bit(x.word(i, 0, 1)));
        }
        for (int i = 0; i <= 3; i++) {
            int place = i;
            TrialDesk x = new TrialDesk();
            Bounds.due("word(" + i + ", 5, -1)", x.word(i, 5, -1), true);
            Bounds.productsAre("word(" + i + ", 5, -1)", x, 0, 5);
            Bounds.isTakenBack("word(" + i + ", 5, -1)", d -> { }, d -> Bounds.bit(d.word(place, 5, -1)));
            for (int other = 0; other <= 3; other++) {
                Bounds.due("word(" + other + ", 0, 1)", x.word(other, 0, 1), true);
                Bounds.due("WORDS behind word(" + other + ", 0, 1)", x.alike(0), other < i ? 2 : 1);
            }
        }
    }

    private static void wordTerms() {
        Bounds.says("promise 19", "is a TERM .. false, and nothing is done, if that can't be");
        for (int k = 1; k <= 6; k++) {
            int count = k;
            int all = 1 << k;
            for (int t : new int[] {-1, all, all + 1, -all, 64, MAX, MIN}) {
                Bounds.refused("word(0, " + t + ", 1) at K " + k, Bounds.full(k), x -> Bounds.bit(x.word(0, t, 1)));
                Bounds.refused("word(2, " + t + ", -1) at K " + k, Bounds.full(k), x -> Bounds.bit(x.word(2, t, -1)));
            }
            for (int t = 1; t < all; t++) {
                TrialDesk x = Bounds.made(d -> d.factors(count));
                Bounds.due("word(0, " + t + ", 1) at K " + k, x.word(0, t, 1), true);
                Bounds.productsAre("word(0, " + t + ", 1)", x, 0, t);
            }
        }
    }

    private static void wordMarks() {
        Bounds.says("promise 19", "with a mark (-1, 1) .. false, and nothing is done, if that can't be");
        for (int m : new int[] {0, -2, 2, 3, MAX, MIN}) {
            Bounds.refused("word(0, 1, " + m + ")", Bounds.full(3), x -> Bounds.bit(x.word(0, 1, m)));
            Bounds.refused("word(2, 7, " + m + "), the same with another mark", Bounds.full(3), x -> Bounds.bit(x.word(2, 7, m)));
        }
        for (int m : new int[] {-1, 1}) {
            TrialDesk x = new TrialDesk();
            Bounds.due("word(1, 1, " + m + ")", x.word(1, 1, m), true);
            Bounds.due("part(2)", x.part(2), 8);
            int with = m == 1 ? 2 : 0;
            Bounds.planIs("the mark " + m, x, 2 - with, with, 2 - with, with, 2 - with, with, 2 - with, with);
            Bounds.due("the same with the other mark", x.word(1, 1, -m), true);
            Bounds.due("THE PLAN stays", x.about(101), with);
            Bounds.due("part(2)", x.part(2), 8);
            Bounds.due("SETTING 1 behind it", x.about(101), 2 - with);
        }
    }

    private static void wordNone() {
        Bounds.says("promise 19", "or none (TERM 0, any mark): true");
        for (int m : new int[] {0, 1, -1, 2, -2, MAX, MIN}) {
            for (int i = 0; i <= 3; i++) {
                int place = i;
                TrialDesk x = Bounds.made(Bounds.full(3));
                Bounds.due("word(" + i + ", 0, " + m + ")", x.word(i, 0, m), true);
                Bounds.due("PRODUCTS", x.alike(0), i == 2 ? 1 : 2);
                Bounds.isTakenBack("word(" + i + ", 0, " + m + ")", Bounds.full(3), d -> Bounds.bit(d.word(place, 0, m)));
            }
            TrialDesk x = new TrialDesk();
            x.word(0, 0, m);
            Bounds.due("part(1): all SETTINGS", x.part(1), 8);
            Bounds.due("LENGTH", x.length(0), 0);
        }
    }

    private static void wordProductOfOthers() {
        Bounds.says("promise 19", "false, and nothing is done, if that can't be (a product of others, too)");
        Bounds.Steps three = x -> {
            x.factors(4);
            x.word(0, 3, 1);
            x.word(1, 6, -1);
            x.word(3, 8, 1);
        };
        Bounds.productsAre("three WORDS", Bounds.made(three), 0, 3, 5, 6, 8, 11, 13, 14);
        for (int t : new int[] {3, 5, 6, 8, 11, 13, 14}) {
            for (int m = -1; m <= 1; m += 2) {
                int mark = m;
                Bounds.refused("word(2, " + t + ", " + m + ")", three, x -> Bounds.bit(x.word(2, t, mark)));
            }
        }
        for (int t : new int[] {1, 2, 4, 7, 9, 10, 12, 15}) {
            Bounds.due("word(2, " + t + ", 1)", Bounds.made(three).word(2, t, 1), true);
        }
        // in the place of WORD 0 only the products of the two others can't be
        for (int t = 1; t <= 15; t++) {
            boolean isProduct = t == 6 || t == 8 || t == 14;
            Bounds.due("word(0, " + t + ", -1)", Bounds.made(three).word(0, t, -1), !isProduct);
        }
        Bounds.refused("word(0, 14, 1)", three, x -> Bounds.bit(x.word(0, 14, 1)));
        TrialDesk x = Bounds.made(three);
        Bounds.due("word(3, 0, 1)", x.word(3, 0, 1), true);
        Bounds.due("word(2, 13, 1), a product no more", x.word(2, 13, 1), true);
        Bounds.productsAre("three others", x, 0, 3, 5, 6, 8, 11, 13, 14);
        allFactorsTaken();
    }

    private static void allFactorsTaken() {
        for (int k = 1; k <= 3; k++) {
            TrialDesk x = new TrialDesk();
            x.factors(k);
            for (int f = 0; f < k; f++) {
                Bounds.due("word(" + f + ", " + (1 << f) + ", 1)", x.word(f, 1 << f, 1), true);
            }
            for (int t = 1; t < 1 << k; t++) {
                Bounds.due("all TERMS are PRODUCTS", x.word(3, t, 1), false);
            }
            Bounds.due("none", x.word(3, 0, 1), true);
            Bounds.due("PRODUCTS", x.alike(0), 1 << k);
        }
    }

    private static void wordsAtFirst() {
        Bounds.says("promise 19", "(At first none.)");
        TrialDesk x = new TrialDesk();
        Bounds.productsAre("at first", x, 0);
        Bounds.due("part(1)", x.part(1), 8);
        for (int i = 0; i <= 3; i++) {
            Bounds.due("none for none", x.word(i, 0, 0), true);
            Bounds.productsAre("none for none", x, 0);
        }
    }

    // ---- promise 20

    private static void partTimes() {
        Bounds.says("promise 20", "tried n times (1 .. 9) .. NONE, and nothing is done, if that can't be");
        for (int n : new int[] {0, 10, -1, 11, MAX, MIN, 1 << 29, 1 << 30}) {
            Bounds.refused("part(" + n + ")", Bounds.full(1), x -> x.part(n), NONE);
            Bounds.refused("part(" + n + ")", Bounds.full(3), x -> x.part(n), NONE);
            Bounds.refused("part(" + n + ") without WORDS", x -> x.factors(1), x -> x.part(n), NONE);
        }
        for (int n = 1; n <= 9; n++) {
            int times = n;
            TrialDesk x = new TrialDesk();
            x.factors(1);
            x.word(3, 1, -1);
            Bounds.due("part(" + n + ") of one SETTING", x.part(n), n);
            Bounds.planIs("part(" + n + ") of one SETTING", x, n, 0);
            x.word(3, 0, 1);
            Bounds.due("part(" + n + ") of both", x.part(n), 2 * n);
            Bounds.planIs("part(" + n + ") of both", x, n, n);
            Bounds.isTakenBack("part(" + n + ")", Bounds.full(1), d -> d.part(times));
        }
    }

    private static void partBeyondForty() {
        Bounds.says("promise 20", "NONE, and nothing is done, if that can't be (more than 40)");
        for (int k = 1; k <= 6; k++) {
            for (int words = 0; words <= 4 && words <= k; words++) {
                int size = 1 << k - words;
                for (int n = 0; n <= 10; n++) {
                    partOf(k, words, size, n);
                }
            }
        }
        TrialDesk x = new TrialDesk();
        Bounds.due("part(6): 48", x.part(6), NONE);
        Bounds.due("part(5): 40", x.part(5), 40);
        Bounds.due("part(6): 48", x.part(6), NONE);
        Bounds.planIs("part(6) refused", x, 5, 5, 5, 5, 5, 5, 5, 5);
        Bounds.due("part(4): 32", x.part(4), 32);
    }

    private static void partOf(int k, int words, int size, int n) {
        Bounds.Steps ahead = x -> {
            x.factors(k);
            for (int i = 0; i < words; i++) {
                x.word(3 - i, 1 << i, -1);
            }
            x.plan(1, 2);
        };
        String call = "part(" + n + ") at K " + k + " with " + words + " WORDS";
        if (n < 1 || n > 9 || n * size > 40) {
            Bounds.refused(call, ahead, x -> x.part(n), NONE);
            return;
        }
        TrialDesk x = Bounds.made(ahead);
        Bounds.due(call, x.part(n), n * size);
        Bounds.due(call + ", trials", x.about(2), n * size);
        Bounds.due(call + ", SETTINGS", x.about(3), size);
        for (int s = 0; s < 1 << k; s++) {
            boolean in = s % (1 << words) == 0;
            Bounds.due(call + ", SETTING " + s, x.about(100 + s), in ? n : 0);
        }
    }

    private static void partInThePlaceOfThePlan() {
        Bounds.says("promise 20", "THE PLAN becomes the PART of the WORDS");
        TrialDesk x = Bounds.made(Bounds.tried(d -> { }, 9, 9, 9, 9, 4));
        x.word(0, 7, 1);
        Bounds.due("part(9) with 40 tried", x.part(9), 36);
        Bounds.planIs("part(9)", x, 0, 9, 9, 0, 9, 0, 0, 9);
        Bounds.due("part(10)", x.part(10), NONE);
        Bounds.due("undo()", x.undo(), true);
        Bounds.planIs("undo()", x, 9, 9, 9, 9, 4, 0, 0, 0);
        Bounds.productsAre("WORDS stay", x, 0, 7);
        Bounds.isTakenBack("part(2), the same again", Bounds.and(Bounds.full(2), d -> d.part(2)), d -> d.part(2));
    }

    // ---- promises 21 and 22

    private static void alikeNoneSuch() {
        Bounds.says("promise 21", "NONE if there is none such");
        for (int k = 1; k <= 6; k++) {
            int all = 1 << k;
            for (int words = 0; words <= 4 && words <= k; words++) {
                TrialDesk x = new TrialDesk();
                x.factors(k);
                for (int i = 0; i < words; i++) {
                    x.word(i, 1 << i, i % 2 == 0 ? 1 : -1);
                }
                for (int t : new int[] {-1, all, all + 1, -all, 64, MAX, MIN}) {
                    Bounds.due("alike(" + t + ") at K " + k, x.alike(t), NONE);
                }
                for (int t : new int[] {0, 1, all - 1}) {
                    Bounds.due("alike(" + t + ") with " + words + " WORDS", x.alike(t), 1 << words);
                }
            }
        }
    }

    private static void alikeOfNoneSuch() {
        Bounds.says("promise 22", "NONE if there is none such [TERM]");
        for (int k = 1; k <= 6; k++) {
            int all = 1 << k;
            TrialDesk x = Bounds.made(Bounds.full(k));
            for (int t : new int[] {-1, all, all + 1, -all, 64, MAX, MIN}) {
                Bounds.due("alikeOf(" + t + ", 0) at K " + k, x.alikeOf(t, 0), NONE);
                Bounds.due("alikeOf(" + t + ", 1) at K " + k, x.alikeOf(t, 1), NONE);
            }
            // full() has the WORD of all FACTORS
            for (int t : new int[] {0, all - 1}) {
                Bounds.due("alikeOf(" + t + ", 0)", x.alikeOf(t, 0), 0);
                Bounds.due("alikeOf(" + t + ", 1)", x.alikeOf(t, 1), all - 1);
            }
        }
    }

    private static void alikeOfBeyondTheLast() {
        Bounds.says("promise 22", "The i-th of these, rising; NONE if there is none such.");
        for (int words = 0; words <= 4; words++) {
            TrialDesk x = new TrialDesk();
            x.factors(6);
            for (int i = 0; i < words; i++) {
                x.word(i, 4 << i, 1);
            }
            int many = 1 << words;
            for (int i : new int[] {-1, many, many + 1, MAX, MIN}) {
                Bounds.due("alikeOf(2, " + i + ") with " + words, x.alikeOf(2, i), NONE);
                Bounds.due("alikeOf(63, " + i + ") with " + words, x.alikeOf(63, i), NONE);
            }
            for (int i = 0; i < many; i++) {
                Bounds.due("alikeOf(2, " + i + ") with " + words, x.alikeOf(2, i), 2 + 4 * i);
                // what is beyond the WORDS stays as it is in 63
                int rest = 63 - 4 * (many - 1);
                Bounds.due("alikeOf(63, " + i + ") with " + words, x.alikeOf(63, i), rest + 4 * i);
            }
        }
    }

    // ---- promise 23

    private static void lengthWhat() {
        Bounds.says("promise 23", "ROW's number for what FACTORS (1 .. 6). NONE for another what.");
        for (int k = 1; k <= 6; k++) {
            TrialDesk x = Bounds.made(Bounds.full(k));
            for (int what : new int[] {-1, 7, 8, -2, 64, MAX, MIN}) {
                Bounds.due("length(" + what + ") at K " + k, x.length(what), NONE);
            }
            for (int what = 1; what <= 6; what++) {
                Bounds.due("length(" + what + ") at K " + k, x.length(what), what == k ? 1 : 0);
            }
            Bounds.due("length(0) at K " + k, x.length(0), k);
        }
    }

    private static void lengthWithoutWords() {
        Bounds.says("Terms 3", "LENGTH of it: the fewest FACTORS of a PRODUCT but 0 (0 without WORDS).");
        for (int k = 1; k <= 6; k++) {
            TrialDesk x = new TrialDesk();
            x.factors(k);
            for (int what = 0; what <= 6; what++) {
                Bounds.due("length(" + what + ") without WORDS", x.length(what), 0);
            }
            x.word(1, 1, -1);
            Bounds.due("length(0) with one of one FACTOR", x.length(0), 1);
            Bounds.due("length(1) with one of one FACTOR", x.length(1), 1);
            x.word(1, 0, -1);
            Bounds.due("length(0) without WORDS again", x.length(0), 0);
        }
    }

    private static void lengthOnItsBounds() {
        Bounds.says("Terms 3", "ROW: for 1 .. 6 how many PRODUCTS have so many FACTORS.");
        TrialDesk x = new TrialDesk();
        x.factors(6);
        x.word(0, 63, 1);
        int[] one = {6, 0, 0, 0, 0, 0, 1};
        for (int what = 0; what <= 6; what++) {
            Bounds.due("length(" + what + ") of 63", x.length(what), one[what]);
        }
        // 63 and 31 make 32: the fewest FACTORS are those of a PRODUCT that is no WORD
        x.word(1, 31, 1);
        int[] two = {1, 1, 0, 0, 0, 1, 1};
        for (int what = 0; what <= 6; what++) {
            Bounds.due("length(" + what + ") of 63, 31", x.length(what), two[what]);
        }
        x.factors(6);
        for (int i = 0; i < 4; i++) {
            x.word(i, 1 << i, 1);
        }
        int[] four = {1, 4, 6, 4, 1, 0, 0};
        for (int what = 0; what <= 6; what++) {
            Bounds.due("length(" + what + ") of four FACTORS", x.length(what), four[what]);
        }
    }

    // ---- promise 24

    private static void bestPartThatCannotBe() {
        Bounds.says("promise 24", "k of them (0 .. 4, K at most) .. false, and nothing is done, if k can't be");
        for (int factors = 1; factors <= 6; factors++) {
            int most = Math.min(factors, 4);
            for (int k : new int[] {-1, most + 1, most + 2, 5, 6, MAX, MIN}) {
                Bounds.refused("bestPart(" + k + ") at K " + factors, Bounds.full(factors), x -> Bounds.bit(x.bestPart(k)));
            }
            for (int k = 0; k <= most; k++) {
                int words = k;
                TrialDesk x = Bounds.made(Bounds.full(factors));
                Bounds.due("bestPart(" + (most + 1) + ")", x.bestPart(most + 1), false);
                Bounds.due("bestPart(" + k + ") at K " + factors, x.bestPart(k), true);
                Bounds.due("WORDS", x.alike(0), 1 << k);
                Bounds.due("trials stay", x.about(2), 3);
                Bounds.due("SEEN stays", x.about(5), 1);
                Bounds.isTakenBack("bestPart(" + k + ")", Bounds.full(factors), d -> Bounds.bit(d.bestPart(words)));
            }
        }
        Bounds.isTakenBack("bestPart(0) without WORDS", x -> { }, x -> Bounds.bit(x.bestPart(0)));
    }

    /** K, k and the WORDS of the best PARTS, found by trying all sets of WORDS. */
    private static final int[][] BEST_WORDS = {
        {1, 1, 1}, {2, 1, 3}, {2, 2, 1, 2}, {3, 1, 7}, {3, 2, 3, 5}, {3, 3, 1, 2, 4}, {4, 1, 15}, {4, 2, 3, 13},
        {4, 3, 3, 5, 9}, {4, 4, 1, 2, 4, 8}, {5, 1, 31}, {5, 2, 7, 25}, {5, 3, 3, 12, 21}, {5, 4, 3, 5, 9, 17},
        {6, 1, 63}, {6, 2, 15, 51}, {6, 3, 7, 25, 42}, {6, 4, 3, 12, 21, 37}};

    private static void bestPartWords() {
        Bounds.says("promise 24", "the least PRODUCT but 0, then each time the least that is no product of those ahead; the others none");
        for (int[] best : BEST_WORDS) {
            int count = best[1];
            Bounds.Steps alike = x -> {
                Bounds.full(best[0]).on(x);
                x.word(2, 0, 1);
                for (int i = 0; i < count; i++) {
                    x.word(i, best[2 + i], 1);
                }
            };
            Bounds.Steps ahead = x -> {
                Bounds.full(best[0]).on(x);
                x.word(3, 1, -1);
            };
            Bounds.done("bestPart(" + count + ") at K " + best[0], ahead, x -> Bounds.bit(x.bestPart(count)), 1, alike);
            Bounds.done("bestPart(0) at K " + best[0], Bounds.and(ahead, x -> Bounds.bit(x.bestPart(count))),
                x -> Bounds.bit(x.bestPart(0)), 1, x -> {
                    Bounds.full(best[0]).on(x);
                    x.word(2, 0, 1);
                });
        }
    }

    private static void bestPartOfAllFactors() {
        Bounds.says("promise 24", "K at most [all FACTORS]");
        for (int k = 1; k <= 4; k++) {
            TrialDesk x = new TrialDesk();
            x.factors(k);
            Bounds.due("bestPart(" + k + ")", x.bestPart(k), true);
            Bounds.due("PRODUCTS", x.alike(0), 1 << k);
            Bounds.due("part(9)", x.part(9), 9);
            Bounds.due("all marks are 1: the last SETTING", x.about(99 + (1 << k)), 9);
            Bounds.due("a WORD more", x.word(3, 1, 1), false);
            x.word(k - 1, 0, 1);
            Bounds.due("part(9) with a WORD less", x.part(9), 18);
        }
    }

    // ---- promises 25 and 26

    private static void chainBeyondTwelve() {
        Bounds.says("promise 25", "NONE if there are more than 12 trials");
        TrialDesk x = new TrialDesk();
        x.plan(0, 9);
        x.plan(7, 2);
        Bounds.due("11 trials", x.chain(), 3);
        x.plan(7, 3);
        Bounds.due("12 trials", x.chain(), 3);
        x.plan(7, 4);
        Bounds.due("13 trials", x.chain(), NONE);
        x.plan(0, 8);
        Bounds.due("12 trials again", x.chain(), 3);
        x.plan(1, 1);
        Bounds.due("13 trials again", x.chain(), NONE);
        Bounds.due("undo()", x.undo(), true);
        Bounds.due("12 trials by undo()", x.chain(), 3);
        x = new TrialDesk();
        x.factors(6);
        for (int s = 0; s < 13; s++) {
            // Gray's order: neighbours differ by one FACTOR
            x.plan(s ^ s >> 1, 1);
            Bounds.due((s + 1) + " SETTINGS", x.chain(), s < 12 ? s : NONE);
        }
        x.clear();
        Bounds.due("behind clear()", x.chain(), 0);
        twelveUnlike();
    }

    /** Twelve SETTINGS that are two FACTORS apart at least, asked for but once: the most that a CHAIN can need. */
    private static void twelveUnlike() {
        int[] settings = {0, 3, 5, 6, 9, 10, 12, 15, 17, 18, 20, 23};
        TrialDesk x = new TrialDesk();
        x.factors(6);
        for (int s : settings) {
            x.plan(s, 1);
        }
        Bounds.due("12 SETTINGS, two apart", x.chain(), 22);
        int changes = 0;
        for (int i = 1; i < 12; i++) {
            changes += Integer.bitCount(x.chainOf(i - 1) ^ x.chainOf(i));
        }
        Bounds.due("the CHANGES of that CHAIN", changes, 22);
        Bounds.due("its first SETTING", x.chainOf(0), 0);
        Bounds.due("its second SETTING", x.chainOf(1), 3);
        x.plan(63, 1);
        Bounds.due("a 13th", x.chain(), NONE);
    }

    private static void chainOfFew() {
        Bounds.says("promise 25", "The fewest CHANGES of a CHAIN [of none, of one, of two trials]");
        for (int k = 1; k <= 6; k++) {
            int last = (1 << k) - 1;
            TrialDesk x = new TrialDesk();
            x.factors(k);
            Bounds.due("of nothing", x.chain(), 0);
            x.plan(last, 1);
            Bounds.due("of one", x.chain(), 0);
            x.plan(last, 9);
            Bounds.due("of one SETTING", x.chain(), 0);
            x.plan(0, 1);
            Bounds.due("of the first and the last", x.chain(), k);
            x.plan(last, 1);
            x.plan(0, 9);
            Bounds.due("of the first and the last", x.chain(), k);
        }
    }

    private static void chainOfNoneSuch() {
        Bounds.says("promise 26", "NONE .. if there is none such");
        TrialDesk x = new TrialDesk();
        for (int i : new int[] {-1, 0, 1, 12, MAX, MIN}) {
            Bounds.due("chainOf(" + i + ") of nothing", x.chainOf(i), NONE);
        }
        for (int n = 1; n <= 12; n++) {
            x.plan(5, Math.min(n, 9));
            x.plan(2, Math.max(n - 9, 0));
            for (int i : new int[] {-1, n, n + 1, -n, 13, MAX, MIN}) {
                Bounds.due("chainOf(" + i + ") of " + n, x.chainOf(i), NONE);
            }
            Bounds.due("the first of " + n, x.chainOf(0), n > 9 ? 2 : 5);
            Bounds.due("the last of " + n, x.chainOf(n - 1), 5);
        }
        x.plan(2, 0);
        Bounds.due("the 9th of 9", x.chainOf(8), 5);
        Bounds.due("the 10th of 9", x.chainOf(9), NONE);
    }

    private static void chainOfBeyondTwelve() {
        Bounds.says("promise 26", "NONE likewise");
        TrialDesk x = Bounds.made(Bounds.tried(d -> { }, 9, 3));
        for (int i = 0; i < 12; i++) {
            Bounds.due("chainOf(" + i + ") of 12", x.chainOf(i), i < 9 ? 0 : 1);
        }
        Bounds.due("chainOf(12) of 12", x.chainOf(12), NONE);
        x.plan(2, 1);
        for (int i = -1; i <= 14; i++) {
            Bounds.due("chainOf(" + i + ") of 13", x.chainOf(i), NONE);
        }
        x.plan(1, 2);
        // 2 0 .. 0 1 1 has the fewest CHANGES, and so has its contrary, which begins with 1
        int[] chain = {1, 1, 0, 0, 0, 0, 0, 0, 0, 0, 0, 2};
        for (int i = 0; i < 12; i++) {
            Bounds.due("chainOf(" + i + ") of 12 again", x.chainOf(i), chain[i]);
        }
        Bounds.due("chain()", x.chain(), 2);
    }

    private static void chainsFirstOfSeveral() {
        Bounds.says("Terms 4", "CHAINS are ordered by their SETTINGS, the lesser first.");
        TrialDesk x = new TrialDesk();
        x.plan(7, 2);
        x.plan(0, 1);
        int[] two = {0, 7, 7};
        for (int i = 0; i < 3; i++) {
            Bounds.due("0 7 7 and 7 7 0", x.chainOf(i), two[i]);
        }
        x = new TrialDesk();
        for (int s = 0; s < 8; s++) {
            x.plan(s, s == 0 || s == 1 || s == 6 || s == 7 ? 2 : 1);
        }
        int[] all = {0, 0, 1, 1, 3, 2, 6, 6, 4, 5, 7, 7};
        for (int i = 0; i < 12; i++) {
            Bounds.due("12 trials of 8 SETTINGS, place " + i, x.chainOf(i), all[i]);
        }
        Bounds.due("a CHANGE between each", x.chain(), 7);
    }
}
