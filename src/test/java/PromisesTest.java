/** Each promise by its number: ordinary calls, the edges that the document names, wrong arguments. */
public final class PromisesTest {
    private static final int MAX = Integer.MAX_VALUE;
    private static final int MIN = Integer.MIN_VALUE;
    private static int wrong = 0;
    private static int asked = 0;
    private static int promise = 0;

    public static void main(String[] args) {
        newObject();
        factors();
        term();
        drop();
        plan();
        clear();
        about();
        mark();
        table();
        worth();
        known();
        spread();
        widest();
        needed();
        best();
        bests();
        swap();
        next();
        word();
        part();
        alike();
        alikeOf();
        length();
        bestPart();
        chain();
        chainOf();
        see();
        forget();
        weight();
        miss();
        undo();
        System.out.println(asked + " answers asked, " + wrong + " not as due");
        if (wrong != 0) {
            System.exit(1);
        }
    }

    private static void due(String call, long got, long want) {
        asked++;
        if (got != want) {
            wrong++;
            System.out.println("promise " + promise + ": " + call + " answered " + got + ", due is " + want);
        }
    }

    private static void due(String call, boolean got, boolean want) {
        due(call, got ? 1 : 0, want ? 1 : 0);
    }

    /** A desk of k FACTORS with THE MODEL of these TERMS. */
    private static TrialDesk desk(int k, int... terms) {
        TrialDesk x = new TrialDesk();
        x.factors(k);
        for (int t : terms) {
            x.term(t);
        }
        if (terms.length > 0 && terms[0] != 0) {
            x.drop(0);
        }
        return x;
    }

    private static void tryEach(TrialDesk x, int... settings) {
        for (int s : settings) {
            x.plan(s, x.about(100 + s) + 1);
        }
    }

    private static void planIs(String call, TrialDesk x, int... times) {
        for (int s = 0; s < times.length; s++) {
            due(call + ": SETTING " + s, x.about(100 + s), times[s]);
        }
    }

    private static void newObject() {
        promise = 1;
        TrialDesk x = new TrialDesk();
        due("about(0)", x.about(0), 3);
        due("about(1)", x.about(1), 1);
        due("about(10)", x.about(10), 0);
        due("about(2)", x.about(2), 0);
        due("about(3)", x.about(3), 0);
        due("about(5)", x.about(5), 0);
        due("length(0)", x.length(0), 0);
        due("undo()", x.undo(), false);
        due("NONE", TrialDesk.NONE, -1);
    }

    private static void factors() {
        promise = 2;
        for (int k : new int[] {0, 7, -1, MAX, MIN}) {
            TrialDesk x = desk(2, 1, 2);
            x.plan(3, 2);
            due("factors(" + k + ")", x.factors(k), false);
            due("about(0) behind factors(" + k + ")", x.about(0), 2);
            due("about(2) behind factors(" + k + ")", x.about(2), 2);
        }
        for (int k = 1; k <= 6; k++) {
            TrialDesk x = new TrialDesk();
            x.term(5);
            x.drop(0);
            x.plan(1, 4);
            x.word(2, 7, -1);
            x.see(0, 5);
            due("factors(" + k + ")", x.factors(k), true);
            due("K", x.about(0), k);
            due("TERMS", x.about(1), 1);
            due("TERM 0", x.about(10), 0);
            due("trials", x.about(2), 0);
            due("SETTING 1", x.about(101), 0);
            due("SEEN", x.about(5), 0);
            due("MISS", x.miss(0), 0);
            due("LENGTH", x.length(0), 0);
            due("the last SETTING", x.about(100 + (1 << k) - 1), 0);
            due("one beyond", x.about(100 + (1 << k)), -1);
        }
    }

    private static void term() {
        promise = 3;
        TrialDesk x = desk(2);
        due("term(0), there is one", x.term(0), -1);
        due("term(4)", x.term(4), -1);
        due("term(-1)", x.term(-1), -1);
        due("term(MAX)", x.term(MAX), -1);
        due("term(MIN)", x.term(MIN), -1);
        due("term(3)", x.term(3), 2);
        due("term(3) again", x.term(3), -1);
        due("term(1)", x.term(1), 3);
        due("TERM 1", x.about(11), 3);
        due("TERM 2", x.about(12), 1);
        x = desk(3, 7, 6, 5, 4, 3);
        due("TERMS", x.about(1), 4);
        due("term(3)", x.term(3), 5);
        due("term(2), there are 5", x.term(2), -1);
        due("TERMS", x.about(1), 5);
        x = desk(2, 1);
        x.plan(2, 3);
        x.see(1, 9);
        x.word(0, 3, 1);
        x.term(0);
        due("trials stay", x.about(2), 3);
        due("SEEN stays", x.about(5), 1);
        due("WORDS stay", x.length(0), 2);
    }

    private static void drop() {
        promise = 4;
        TrialDesk x = desk(3, 0, 1, 2, 4, 7);
        due("drop(5)", x.drop(5), false);
        due("drop(-1)", x.drop(-1), false);
        due("drop(MAX)", x.drop(MAX), false);
        due("drop(MIN)", x.drop(MIN), false);
        due("drop(1)", x.drop(1), true);
        int[] left = {0, 2, 4, 7, -1};
        for (int i = 0; i < left.length; i++) {
            due("TERM " + i, x.about(10 + i), left[i]);
        }
        due("drop(3)", x.drop(3), true);
        due("drop(0)", x.drop(0), true);
        due("TERM 0", x.about(10), 2);
        due("TERM 1", x.about(11), 4);
        due("drop(1)", x.drop(1), true);
        due("drop(0) of the only one", x.drop(0), false);
        due("TERM 0", x.about(10), 2);
        due("term(0) is free again", x.term(0), 2);
    }

    private static void plan() {
        promise = 5;
        TrialDesk x = desk(3);
        for (int s : new int[] {-1, 8, MAX, MIN}) {
            due("plan(" + s + ", 1)", x.plan(s, 1), false);
        }
        for (int n : new int[] {-1, 10, MAX, MIN}) {
            due("plan(0, " + n + ")", x.plan(0, n), false);
        }
        due("trials", x.about(2), 0);
        for (int s = 0; s < 4; s++) {
            due("plan(s, 9)", x.plan(s, 9), true);
        }
        due("plan(7, 5): 41", x.plan(7, 5), false);
        due("plan(7, 4): 40", x.plan(7, 4), true);
        due("trials", x.about(2), 40);
        due("plan(6, 1): 41", x.plan(6, 1), false);
        due("plan(6, 0)", x.plan(6, 0), true);
        due("plan(7, 5): 41", x.plan(7, 5), false);
        due("plan(7, 4) again", x.plan(7, 4), true);
        due("plan(0, 2)", x.plan(0, 2), true);
        planIs("plan", x, 2, 9, 9, 9, 0, 0, 0, 4);
        due("trials", x.about(2), 33);
    }

    private static void clear() {
        promise = 6;
        TrialDesk x = desk(6, 0, 1);
        x.plan(63, 9);
        x.plan(0, 1);
        x.see(2, 2);
        x.word(0, 5, 1);
        x.clear();
        due("trials", x.about(2), 0);
        due("SETTINGS", x.about(3), 0);
        due("SETTING 63", x.about(163), 0);
        due("TERMS stay", x.about(1), 2);
        due("SEEN stays", x.about(5), 1);
        due("WORDS stay", x.length(0), 2);
        due("plan(63, 9)", x.plan(63, 9), true);
        due("trials", x.about(2), 9);
    }

    private static void about() {
        promise = 7;
        TrialDesk x = desk(4, 0, 8, 3);
        tryEach(x, 15, 15, 2, 9);
        x.see(1, 1);
        x.see(1, 1);
        due("K", x.about(0), 4);
        due("TERMS", x.about(1), 3);
        due("trials", x.about(2), 4);
        due("SETTINGS", x.about(3), 3);
        due("RANK", x.about(4), 3);
        due("SEEN", x.about(5), 2);
        due("TERM 0", x.about(10), 0);
        due("TERM 1", x.about(11), 8);
        due("TERM 2", x.about(12), 3);
        due("SETTING 15", x.about(115), 2);
        due("SETTING 2", x.about(102), 1);
        for (int what : new int[] {-1, 6, 7, 8, 9, 13, 14, 15, 99, 116, 163, 164, MAX, MIN}) {
            due("about(" + what + ")", x.about(what), -1);
        }
        x.clear();
        due("RANK of nothing", x.about(4), 0);
        tryEach(x, 15, 15);
        due("RANK of one SETTING", x.about(4), 1);
        // at 15 and 12 TERM 8 is 1 and TERM 3 is 1: the TABLE has but one line
        tryEach(x, 12);
        due("RANK of two alike SETTINGS", x.about(4), 1);
        tryEach(x, 4);
        due("RANK", x.about(4), 2);
    }

    private static void mark() {
        promise = 8;
        TrialDesk x = desk(2);
        int[][] marks = {{1, 1, 1, 1}, {-1, 1, -1, 1}, {-1, -1, 1, 1}, {1, -1, -1, 1}};
        for (int t = 0; t < 4; t++) {
            for (int s = 0; s < 4; s++) {
                due("mark(" + t + ", " + s + ")", x.mark(t, s), marks[t][s]);
            }
        }
        for (int no : new int[] {-1, 4, MAX, MIN}) {
            due("mark(" + no + ", 0)", x.mark(no, 0), 0);
            due("mark(0, " + no + ")", x.mark(0, no), 0);
        }
        x.factors(6);
        due("mark(63, 0)", x.mark(63, 0), 1);
        due("mark(63, 1)", x.mark(63, 1), -1);
        due("mark(32, 31)", x.mark(32, 31), -1);
    }

    private static void table() {
        promise = 9;
        TrialDesk x = desk(2, 0, 1, 3);
        x.plan(0, 2);
        x.plan(1, 1);
        x.plan(2, 4);
        // TERM 1: -1 1 -1, TERM 3: 1 -1 -1 at the SETTINGS 0, 1, 2
        int[][] rows = {{7, -5, -3}, {-5, 7, 1}, {-3, 1, 7}};
        for (int i = 0; i < 3; i++) {
            for (int j = 0; j < 3; j++) {
                due("table(" + i + ", " + j + ")", x.table(i, j), rows[i][j]);
            }
        }
        for (int no : new int[] {-1, 3, 5, MAX, MIN}) {
            due("table(" + no + ", 0)", x.table(no, 0), -1000);
            due("table(0, " + no + ")", x.table(0, no), -1000);
        }
    }

    private static void worth() {
        promise = 10;
        TrialDesk x = desk(2, 0, 1, 3);
        due("worth() of nothing", x.worth(), 0);
        x.plan(0, 2);
        x.plan(1, 1);
        due("worth() of two SETTINGS", x.worth(), 0);
        x.plan(2, 4);
        // 7 * 48 + 5 * (-35 + 3) - 3 * (-5 + 21)
        due("worth()", x.worth(), 128);
        x = desk(1);
        x.plan(0, 9);
        due("worth() of TERM 0", x.worth(), 9);
        x = desk(3, 0, 1, 2, 4, 7);
        for (int s = 0; s < 8; s++) {
            x.plan(s, 5);
        }
        due("the greatest worth()", x.worth(), 102400000L);
    }

    private static void known() {
        promise = 11;
        TrialDesk x = desk(2, 0, 1, 2);
        due("known(0 0 0) of nothing", x.known(0, 0, 0, 9, 9), 1);
        due("known(0 0 1) of nothing", x.known(0, 0, 1, 9, 9), 0);
        tryEach(x, 3, 1);
        due("known(1 1 1)", x.known(1, 1, 1, 0, 0), 1);
        due("known(1 1 -1)", x.known(1, 1, -1, 0, 0), 1);
        due("known(9 9 0)", x.known(9, 9, 0, 0, 0), 1);
        due("known(0 0 -9)", x.known(0, 0, -9, 0, 0), 1);
        due("known(1 0 0)", x.known(1, 0, 0, 0, 0), 0);
        due("known(9 8 0)", x.known(9, 8, 0, 0, 0), 0);
        for (int no : new int[] {-10, 10, MAX, MIN}) {
            due("known(" + no + " ..)", x.known(no, 0, 0, 0, 0), -1);
            due("known(0 " + no + " ..)", x.known(0, no, 0, 0, 0), -1);
            due("known(0 0 " + no + " ..)", x.known(0, 0, no, 0, 0), -1);
            due("known with others", x.known(1, 1, 1, no, no), 1);
        }
        x = desk(3, 0, 1, 2, 4, 7);
        due("the fifth", x.known(0, 0, 0, 0, 10), -1);
        due("the fourth", x.known(0, 0, 0, -10, 0), -1);
    }

    private static void spread() {
        promise = 12;
        TrialDesk x = desk(2, 0, 1, 2);
        tryEach(x, 0, 1, 2, 3);
        due("upper of (6 2 0)", x.spread(6, 2, 0, 99, 99, 0), 10);
        due("lower of (6 2 0)", x.spread(6, 2, 0, 99, 99, 1), 1);
        due("upper of (1 1 1)", x.spread(1, 1, 1, 0, 0, 0), 3);
        due("lower of (1 1 1)", x.spread(1, 1, 1, 0, 0, 1), 4);
        due("upper of (0 0 0)", x.spread(0, 0, 0, 0, 0, 0), 0);
        due("lower of (0 0 0)", x.spread(0, 0, 0, 0, 0, 1), 1);
        for (int what : new int[] {-1, 2, MAX, MIN}) {
            due("what " + what, x.spread(1, 1, 1, 0, 0, what), -1);
        }
        due("a number that can't be", x.spread(1, 10, 1, 0, 0, 0), -1);
        due("a number that can't be", x.spread(-10, 1, 1, 0, 0, 1), -1);
        x.plan(0, 0);
        x.plan(2, 0);
        x.plan(3, 2);
        due("not KNOWN", x.spread(1, 0, 0, 0, 0, 0), -1);
        // the mean at SETTING 1 of one trial, at SETTING 3 of two
        due("upper at SETTING 1", x.spread(1, 1, -1, 0, 0, 0), 1);
        due("lower at SETTING 1", x.spread(1, 1, -1, 0, 0, 1), 1);
        due("upper at SETTING 3", x.spread(1, 1, 1, 0, 0, 0), 1);
        due("lower at SETTING 3", x.spread(1, 1, 1, 0, 0, 1), 2);
        due("upper of half their unlikeness", x.spread(0, 0, 1, 0, 0, 0), 3);
        due("lower of half their unlikeness", x.spread(0, 0, 1, 0, 0, 1), 8);
    }

    private static void widest() {
        promise = 13;
        TrialDesk x = desk(2, 0, 1, 2);
        due("nothing is KNOWN", x.widest(0), -1);
        tryEach(x, 1, 2, 3);
        // SETTING 0 is 1 + 2 - 3
        due("upper", x.widest(0), 3);
        due("lower", x.widest(1), 1);
        due("where", x.widest(2), 0);
        tryEach(x, 0, 0);
        // the TABLE is 4 on the diagonal more than -1, -1, 1: (3 - 1/7) / 4 at the SETTINGS 1, 2, 3
        due("where, of three", x.widest(2), 1);
        due("upper", x.widest(0), 5);
        due("lower", x.widest(1), 7);
        for (int what : new int[] {-1, 3, MAX, MIN}) {
            due("what " + what, x.widest(what), -1);
        }
        x.clear();
        tryEach(x, 1, 2);
        due("not KNOWN", x.widest(2), -1);
    }

    private static void needed() {
        promise = 14;
        TrialDesk x = desk(2, 0, 1, 2);
        due("of nothing", x.needed(), 0);
        tryEach(x, 0, 1, 2);
        due("of three", x.needed(), 3);
        tryEach(x, 1);
        due("one is tried twice", x.needed(), 2);
        tryEach(x, 3);
        due("of all four", x.needed(), 0);
        x.clear();
        tryEach(x, 2);
        due("of one", x.needed(), 1);
        x = desk(3, 0, 1);
        tryEach(x, 0, 2, 7);
        due("two are alike for THE MODEL", x.needed(), 1);
    }

    private static void best() {
        promise = 15;
        TrialDesk x = desk(2, 0, 1);
        for (int n : new int[] {-1, 41, MAX, MIN}) {
            due("best(" + n + ")", x.best(n), false);
        }
        due("best(3)", x.best(3), true);
        // WORTH 8: two with one mark of FACTOR 0 and one with the other
        planIs("best(3)", x, 2, 1, 0, 0);
        due("best(1): WORTH 0, the first", x.best(1), true);
        planIs("best(1)", x, 1, 0, 0, 0);
        due("best(36)", x.best(36), true);
        planIs("best(36)", x, 9, 9, 9, 9);
        due("best(37): there is none", x.best(37), false);
        due("trials", x.about(2), 36);
        due("best(0)", x.best(0), true);
        due("trials", x.about(2), 0);
        x = desk(2);
        due("best(12) of TERM 0", x.best(12), true);
        planIs("best(12)", x, 9, 3, 0, 0);
        x = desk(3, 0, 1, 2, 4);
        due("best(10): 19440 PLANS", x.best(10), true);
        due("trials", x.about(2), 10);
        due("best(11): too many", x.best(11), false);
        due("trials", x.about(2), 10);
        x = desk(6, 0, 63);
        due("best(2)", x.best(2), true);
        due("SETTING 0", x.about(100), 1);
        due("SETTING 1", x.about(101), 1);
        due("best(3): too many", x.best(3), false);
        x = desk(2, 0, 1);
        due("best(2)", x.best(2), true);
        planIs("best(2)", x, 1, 1, 0, 0);
        x.drop(0);
        x.term(3);
        x.drop(0);
        x.term(1);
        due("best(2) of the TERMS 3, 1", x.best(2), true);
        planIs("best(2) of the TERMS 3, 1", x, 1, 0, 1, 0);
        x = desk(1, 0, 1);
        due("best(18)", x.best(18), true);
        due("best(19): there is none", x.best(19), false);
    }

    private static void bests() {
        promise = 16;
        TrialDesk x = desk(2, 0, 1);
        for (int n : new int[] {-1, 41, MAX, MIN}) {
            due("bests(" + n + ")", x.bests(n), -1);
        }
        due("bests(0)", x.bests(0), 1);
        due("bests(1): all have WORTH 0", x.bests(1), 4);
        due("bests(2): one of each mark", x.bests(2), 4);
        due("bests(3)", x.bests(3), 12);
        due("bests(36)", x.bests(36), 1);
        due("bests(35)", x.bests(35), 4);
        due("bests(37)", x.bests(37), 0);
        due("trials", x.about(2), 0);
        x.term(2);
        due("bests(3) of another MODEL", x.bests(3), 4);
        x = desk(3);
        due("bests(9) of TERM 0", x.bests(9), 11440);
        due("bests(10) of TERM 0", x.bests(10), 19440);
        due("bests(11)", x.bests(11), -1);
        x = desk(4);
        due("bests(5) of TERM 0", x.bests(5), 15504);
        due("bests(6)", x.bests(6), -1);
        x = desk(5);
        due("bests(3) of TERM 0", x.bests(3), 5984);
        due("bests(4)", x.bests(4), -1);
        x = desk(6);
        due("bests(2) of TERM 0", x.bests(2), 2080);
        due("bests(3)", x.bests(3), -1);
        due("bests(40)", x.bests(40), -1);
        x = desk(2);
        due("bests(2) of 4 SETTINGS", x.bests(2), 10);
        x.factors(3);
        due("bests(2) of 8 SETTINGS", x.bests(2), 36);
        x = desk(1);
        due("bests(9) of TERM 0", x.bests(9), 10);
        due("bests(10): none is tried 10 times", x.bests(10), 9);
    }

    private static void swap() {
        promise = 17;
        TrialDesk x = desk(2, 0, 1, 2);
        due("of nothing", x.swap(), false);
        x.plan(0, 4);
        due("WORTH 0 stays", x.swap(), false);
        x.plan(0, 2);
        x.plan(1, 1);
        // 3 trials of 2 SETTINGS: the third must be 2 or 3, both WORTH 16; 0 is left first
        due("swap()", x.swap(), true);
        planIs("swap()", x, 1, 1, 1, 0);
        due("worth()", x.worth(), 16);
        due("none is better", x.swap(), false);
        planIs("no swap()", x, 1, 1, 1, 0);
        x = desk(1, 0, 1);
        x.plan(0, 9);
        x.plan(1, 1);
        for (int i = 0; i < 4; i++) {
            due("swap()", x.swap(), true);
        }
        due("no more", x.swap(), false);
        planIs("swaps", x, 5, 5);
        // TERM 0 alone: no SWAP raises the WORTH
        x = desk(2);
        x.plan(0, 3);
        due("TERM 0 alone", x.swap(), false);
        // the best other SETTING is full
        x = desk(2, 1, 2);
        x.plan(0, 1);
        x.plan(1, 9);
        x.plan(2, 9);
        due("swap() to one that is not full", x.swap(), true);
        planIs("swap()", x, 2, 8, 9, 0);
    }

    private static void next() {
        promise = 18;
        TrialDesk x = desk(2, 0, 1);
        due("of nothing", x.next(), 0);
        x.plan(0, 1);
        due("the other mark", x.next(), 1);
        x.plan(1, 9);
        due("the first with mark -1", x.next(), 0);
        x.plan(0, 9);
        due("0 is full", x.next(), 2);
        x.plan(2, 9);
        due("the mark 1, and 1 is full", x.next(), 3);
        x.plan(3, 9);
        due("all are full", x.next(), -1);
        x = desk(3);
        for (int s = 0; s < 4; s++) {
            x.plan(s, 9);
        }
        x.plan(4, 3);
        due("39 are tried", x.next(), 4);
        x.plan(4, 4);
        due("40 are tried", x.next(), -1);
    }

    private static void word() {
        promise = 19;
        TrialDesk x = desk(4);
        for (int no : new int[] {-1, 4, MAX, MIN}) {
            due("word(" + no + ", 1, 1)", x.word(no, 1, 1), false);
        }
        for (int no : new int[] {-1, 16, MAX, MIN}) {
            due("word(0, " + no + ", 1)", x.word(0, no, 1), false);
        }
        for (int no : new int[] {-2, 0, 2, MAX, MIN}) {
            due("word(0, 1, " + no + ")", x.word(0, 1, no), false);
            due("word(0, 0, " + no + ")", x.word(0, 0, no), true);
        }
        due("no WORDS", x.alike(0), 1);
        due("word(3, 3, -1)", x.word(3, 3, -1), true);
        due("word(1, 6, 1)", x.word(1, 6, 1), true);
        due("a product", x.word(0, 5, 1), false);
        due("the same", x.word(0, 6, 1), false);
        due("in the place of another", x.word(1, 5, 1), true);
        due("again, with another mark", x.word(1, 5, -1), true);
        due("word(0, 1, 1)", x.word(0, 1, 1), true);
        due("word(2, 7, 1) is a product", x.word(2, 7, 1), false);
        due("word(2, 15, 1)", x.word(2, 15, 1), true);
        due("all TERMS are PRODUCTS", x.alike(0), 16);
        due("none", x.word(3, 0, 7), true);
        due("half are left", x.alike(0), 8);
        due("word(-1, 0, 1)", x.word(-1, 0, 1), false);
        due("word(4, 0, 1)", x.word(4, 0, 1), false);
        due("trials", x.about(2), 0);
    }

    private static void part() {
        promise = 20;
        TrialDesk x = desk(3);
        for (int n : new int[] {-1, 0, 10, MAX, MIN}) {
            due("part(" + n + ")", x.part(n), -1);
        }
        due("part(5) without WORDS", x.part(5), 40);
        planIs("part(5)", x, 5, 5, 5, 5, 5, 5, 5, 5);
        due("part(6): 48", x.part(6), -1);
        planIs("part(6)", x, 5, 5, 5, 5, 5, 5, 5, 5);
        x.word(2, 7, -1);
        due("part(9)", x.part(9), 36);
        planIs("part(9)", x, 9, 0, 0, 9, 0, 9, 9, 0);
        x.word(0, 1, 1);
        due("part(2)", x.part(2), 4);
        planIs("part(2)", x, 0, 0, 0, 2, 0, 2, 0, 0);
        x = desk(6);
        due("64 trials", x.part(1), -1);
        x.word(3, 32, -1);
        due("32 trials", x.part(1), 32);
        due("SETTING 31", x.about(131), 1);
        due("SETTING 32", x.about(132), 0);
    }

    private static void alike() {
        promise = 21;
        TrialDesk x = desk(5);
        due("alike(0)", x.alike(0), 1);
        x.word(1, 7, -1);
        due("alike(31)", x.alike(31), 2);
        x.word(3, 25, 1);
        due("alike(31)", x.alike(31), 4);
        for (int no : new int[] {-1, 32, MAX, MIN}) {
            due("alike(" + no + ")", x.alike(no), -1);
        }
    }

    private static void alikeOf() {
        promise = 22;
        TrialDesk x = desk(5);
        due("itself", x.alikeOf(9, 0), 9);
        due("no other", x.alikeOf(9, 1), -1);
        x.word(0, 25, -1);
        x.word(2, 7, 1);
        int[] of = {1, 6, 24, 31};
        for (int i = 0; i < 4; i++) {
            due("alikeOf(31, " + i + ")", x.alikeOf(31, i), of[i]);
            due("alikeOf(1, " + i + ")", x.alikeOf(1, i), of[i]);
        }
        for (int no : new int[] {-1, 4, MAX, MIN}) {
            due("alikeOf(31, " + no + ")", x.alikeOf(31, no), -1);
        }
        for (int no : new int[] {-1, 32, MAX, MIN}) {
            due("alikeOf(" + no + ", 0)", x.alikeOf(no, 0), -1);
        }
    }

    private static void length() {
        promise = 23;
        TrialDesk x = desk(5);
        for (int what = 0; what <= 6; what++) {
            due("length(" + what + ") without WORDS", x.length(what), 0);
        }
        x.word(0, 15, 1);
        x.word(1, 28, -1);
        // 15, 28, 19
        int[] row = {3, 0, 0, 2, 1, 0, 0};
        for (int what = 0; what <= 6; what++) {
            due("length(" + what + ")", x.length(what), row[what]);
        }
        for (int no : new int[] {-1, 7, MAX, MIN}) {
            due("length(" + no + ")", x.length(no), -1);
        }
        x.factors(6);
        x.word(3, 63, 1);
        due("length(6)", x.length(6), 1);
        due("length(0)", x.length(0), 6);
    }

    private static void wordsAre(String call, TrialDesk x, int... products) {
        for (int i = 0; i < products.length; i++) {
            due(call + ": PRODUCT " + i, x.alikeOf(0, i), products[i]);
        }
        due(call + ": no more", x.alikeOf(0, products.length), -1);
    }

    private static void bestPart() {
        promise = 24;
        TrialDesk x = desk(2);
        for (int no : new int[] {-1, 3, 4, 5, MAX, MIN}) {
            due("bestPart(" + no + ")", x.bestPart(no), false);
        }
        due("bestPart(1)", x.bestPart(1), true);
        wordsAre("bestPart(1)", x, 0, 3);
        due("bestPart(2)", x.bestPart(2), true);
        wordsAre("bestPart(2)", x, 0, 1, 2, 3);
        x.word(3, 0, 1);
        due("bestPart(0)", x.bestPart(0), true);
        wordsAre("bestPart(0)", x, 0);
        x = desk(4);
        x.word(0, 1, -1);
        x.word(3, 2, -1);
        due("bestPart(1)", x.bestPart(1), true);
        wordsAre("bestPart(1)", x, 0, 15);
        due("the mark is 1", x.part(1), 8);
        due("SETTING 0", x.about(100), 1);
        due("bestPart(2)", x.bestPart(2), true);
        // two of three FACTORS and one of two: the first by PRODUCTS has the 3 of FACTORS 0, 1
        wordsAre("bestPart(2)", x, 0, 3, 13, 14);
        due("word(0, 0, 1)", x.word(0, 0, 1), true);
        wordsAre("WORD 0 was 3", x, 0, 13);
        due("bestPart(2)", x.bestPart(2), true);
        due("word(1, 0, 1)", x.word(1, 0, 1), true);
        wordsAre("WORD 1 was 13", x, 0, 3);
        x = desk(6);
        due("bestPart(5)", x.bestPart(5), false);
        due("bestPart(4)", x.bestPart(4), true);
        due("alike(0)", x.alike(0), 16);
        due("length(0)", x.length(0), 2);
        due("bestPart(3)", x.bestPart(3), true);
        wordsAre("bestPart(3)", x, 0, 7, 25, 30, 42, 45, 51, 52);
    }

    private static void chain() {
        promise = 25;
        TrialDesk x = desk(3);
        due("of nothing", x.chain(), 0);
        x.plan(5, 9);
        due("of one SETTING", x.chain(), 0);
        x.plan(2, 3);
        due("5 and 2", x.chain(), 3);
        x.plan(3, 1);
        due("13 trials", x.chain(), -1);
        x.clear();
        tryEach(x, 0, 1, 2, 3, 4, 5, 6, 7);
        due("all", x.chain(), 7);
        tryEach(x, 0, 3, 5, 6);
        due("all, and four again", x.chain(), 7);
        tryEach(x, 7);
        due("13 trials", x.chain(), -1);
        x = desk(6);
        tryEach(x, 0, 63, 7, 56);
        due("0 7 63 56", x.chain(), 9);
        x.clear();
        tryEach(x, 0, 3, 5, 6, 9, 10, 12, 15, 17, 18, 20, 23);
        due("12 SETTINGS, each two apart at least", x.chain(), 22);
    }

    private static void chainIs(TrialDesk x, int... settings) {
        for (int i = 0; i < settings.length; i++) {
            due("chainOf(" + i + ")", x.chainOf(i), settings[i]);
        }
        due("one beyond", x.chainOf(settings.length), -1);
    }

    private static void chainOf() {
        promise = 26;
        TrialDesk x = desk(3);
        chainIs(x);
        tryEach(x, 4, 4, 1, 0);
        chainIs(x, 1, 0, 4, 4);
        x.clear();
        tryEach(x, 0, 1, 2, 3, 4, 5, 6, 7);
        chainIs(x, 0, 1, 3, 2, 6, 4, 5, 7);
        x.plan(0, 0);
        chainIs(x, 1, 3, 2, 6, 4, 5, 7);
        x.clear();
        tryEach(x, 7, 0, 7);
        chainIs(x, 0, 7, 7);
        for (int no : new int[] {-1, 3, 12, MAX, MIN}) {
            due("chainOf(" + no + ")", x.chainOf(no), -1);
        }
        x.plan(7, 9);
        x.plan(1, 3);
        due("13 trials", x.chainOf(0), -1);
    }

    private static void see() {
        promise = 27;
        TrialDesk x = desk(2, 0, 1);
        for (int no : new int[] {-1, 4, MAX, MIN}) {
            due("see(" + no + ", 0)", x.see(no, 0), -1);
        }
        for (int no : new int[] {-1001, 1001, MAX, MIN}) {
            due("see(0, " + no + ")", x.see(0, no), -1);
        }
        due("SEEN", x.about(5), 0);
        due("see(3, 1000)", x.see(3, 1000), 1);
        due("see(3, -1000)", x.see(3, -1000), 2);
        for (int i = 3; i <= 60; i++) {
            due("see(0, 7)", x.see(0, 7), i);
        }
        due("60 were SEEN", x.see(0, 7), -1);
        due("SEEN", x.about(5), 60);
        due("THE PLAN stays", x.about(2), 0);
        due("MISS", x.miss(0), 2000000);
    }

    private static void forget() {
        promise = 28;
        TrialDesk x = desk(2);
        x.plan(1, 2);
        x.see(1, 5);
        x.see(2, 6);
        x.forget();
        due("SEEN", x.about(5), 0);
        due("upper MISS", x.miss(0), 0);
        due("lower MISS", x.miss(1), 1);
        due("WEIGHT", x.weight(1, 0, 0, 0, 0, 0), -1000000);
        due("THE PLAN stays", x.about(2), 2);
        due("see(0, 1)", x.see(0, 1), 1);
        due("WEIGHT", x.weight(1, 0, 0, 0, 0, 0), 1);
    }

    private static void weight() {
        promise = 29;
        TrialDesk x = desk(2, 0, 1, 2);
        due("nothing SEEN", x.weight(0, 1, 0, 0, 0, 0), -1000000);
        due("the SUM of 0", x.weight(0, 0, 0, 0, 0, 0), 0);
        due("the SUM of 0", x.weight(0, 0, 0, 0, 0, 1), 1);
        x.see(1, 4);
        x.see(3, 9);
        x.see(3, -2);
        due("not KNOWN", x.weight(1, 0, 0, 0, 0, 0), -1000000);
        due("mean at SETTING 3", x.weight(1, 1, 1, 99, 99, 0), 7);
        due("mean at SETTING 3", x.weight(1, 1, 1, 99, 99, 1), 2);
        // (7/2 - 4) / 2
        due("upper of TERM 2", x.weight(0, 0, 1, 0, 0, 0), -1);
        due("lower of TERM 2", x.weight(0, 0, 1, 0, 0, 1), 4);
        due("-4 of TERM 2", x.weight(0, 0, -4, 0, 0, 0), 1);
        for (int what : new int[] {-1, 2, MAX, MIN}) {
            due("what " + what, x.weight(1, 1, 1, 0, 0, what), -1000000);
        }
        for (int no : new int[] {-10, 10, MAX, MIN}) {
            due("number " + no, x.weight(no, 1, 1, 0, 0, 0), -1000000);
        }
        // THE PLAN has no part in it
        x.plan(0, 1);
        due("still not KNOWN", x.weight(1, -1, -1, 0, 0, 0), -1000000);
        x.see(0, 1);
        due("KNOWN now", x.weight(1, -1, -1, 0, 0, 0), 1);
        x.drop(2);
        due("another MODEL", x.weight(1, 1, 0, 0, 0, 0), 11);
        due("another MODEL", x.weight(1, 1, 0, 0, 0, 1), 3);
    }

    private static void miss() {
        promise = 30;
        TrialDesk x = desk(2);
        due("nothing SEEN", x.miss(0), 0);
        due("nothing SEEN", x.miss(1), 1);
        x.see(1, 4);
        due("one", x.miss(0), 0);
        x.see(3, 9);
        // the mean 13/2: twice (5/2)^2
        due("upper of two", x.miss(0), 25);
        due("lower of two", x.miss(1), 2);
        x.see(3, -2);
        // the mean 11/3: 1/9 + 256/9 + 289/9
        due("upper of three", x.miss(0), 182);
        due("lower of three", x.miss(1), 3);
        x.term(2);
        due("with TERM 2", x.miss(0), 121);
        due("with TERM 2", x.miss(1), 2);
        x.term(1);
        due("TERM 1 tells no more", x.miss(0), 121);
        for (int what : new int[] {-1, 2, MAX, MIN}) {
            due("what " + what, x.miss(what), -1);
        }
        x = desk(3, 7);
        for (int i = 0; i < 60; i++) {
            x.see(i % 8, x.mark(6, i % 8) * 1000);
        }
        // 60 trials; TERM 7 by TERM 6 is TERM 1: 30 of each mark
        due("the greatest MISS", x.miss(0), 60000000);
    }

    private static void undo() {
        promise = 31;
        TrialDesk x = new TrialDesk();
        due("nothing was done", x.undo(), false);
        for (int n = 1; n <= 9; n++) {
            x.plan(2, n);
        }
        for (int n = 8; n >= 1; n--) {
            due("undo()", x.undo(), true);
            due("SETTING 2", x.about(102), n);
        }
        due("8 are kept", x.undo(), false);
        due("SETTING 2", x.about(102), 1);
        x = new TrialDesk();
        x.plan(0, 1);
        x.plan(0, 1);
        x.clear();
        x.clear();
        x.forget();
        x.word(1, 0, 0);
        for (int i = 0; i < 6; i++) {
            due("what was done without a change counts", x.undo(), true);
        }
        due("no more", x.undo(), false);
        undoOfEach();
        undoOfRefused();
    }

    /** The state as one number that any change moves. */
    private static long stateOf(TrialDesk x) {
        long state = x.miss(0);
        for (int what = 0; what < 164; what++) {
            state = state * 31 + x.about(what);
        }
        for (int t = 0; t < 64; t++) {
            state = state * 31 + x.alikeOf(0, t);
        }
        for (int i = 0; i < 5; i++) {
            state = state * 31 + x.weight(i == 0 ? 1 : 0, i == 1 ? 1 : 0, i == 2 ? 1 : 0, 0, 0, 0);
        }
        return state;
    }

    private static boolean change(TrialDesk x, int which) {
        switch (which) {
            case 0: return x.factors(3);
            case 1: return x.term(5) != -1;
            case 2: return x.drop(0);
            case 3: return x.plan(4, 2);
            case 4: x.clear(); return true;
            case 5: return x.best(3);
            case 6: return x.swap();
            case 7: return x.word(0, 3, -1);
            case 8: return x.part(1) != -1;
            case 9: return x.bestPart(2);
            case 10: return x.see(1, -30) != -1;
            default: x.forget(); return true;
        }
    }

    private static TrialDesk fullDesk() {
        TrialDesk x = desk(4, 0, 1, 2);
        x.plan(0, 2);
        x.plan(1, 1);
        x.plan(2, 1);
        x.plan(7, 3);
        x.word(1, 12, -1);
        x.see(0, 1);
        x.see(1, 20);
        x.see(6, 300);
        return x;
    }

    private static void undoOfEach() {
        for (int which = 0; which < 12; which++) {
            TrialDesk x = fullDesk();
            long before = stateOf(x);
            due("change " + which, change(x, which), true);
            due("change " + which + " shows", stateOf(x) != before, true);
            due("undo() of change " + which, x.undo(), true);
            due("state behind undo() of change " + which, stateOf(x), before);
            due("a second undo()", x.undo(), true);
            due("SEEN is one less", x.about(5), 2);
        }
        TrialDesk x = fullDesk();
        x.word(1, 0, 1);
        x.part(1);
        x.word(1, 12, -1);
        x.undo();
        x.undo();
        x.undo();
        due("a WORD's mark comes back", x.part(1), 8);
        due("SETTING 4 is in the PART", x.about(104), 1);
        due("SETTING 0 is not", x.about(100), 0);
    }

    private static void undoOfRefused() {
        TrialDesk x = new TrialDesk();
        x.factors(0);
        x.term(0);
        x.drop(0);
        x.plan(8, 1);
        x.best(-1);
        x.swap();
        x.word(0, 8, 1);
        x.part(0);
        x.bestPart(-1);
        x.see(8, 0);
        x.bests(2);
        x.chain();
        x.next();
        due("none of these was done", x.undo(), false);
        x.plan(1, 1);
        x.plan(1, 2);
        x.undo();
        x.plan(1, 3);
        due("undo()", x.undo(), true);
        due("what was taken back does not come again", x.about(101), 1);
        due("undo()", x.undo(), true);
        due("undo()", x.undo(), false);
    }
}
