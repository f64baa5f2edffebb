import java.util.ArrayList;
import java.util.List;

/** The bounds of promise 31, sentence by sentence, and of the 512 calls that an object is used for. */
public final class BoundsOfUndoTest {
    private static final int NONE = Bounds.NONE;
    private static final int KEPT = 8;

    public static void main(String[] args) {
        noneToTakeBack();
        theLatestEight();
        doneAndNotTakenBack();
        callsTakenBackAndCallsBehind();
        eachCallThatIsNamed();
        eachNamedCallWithoutAChange();
        eachCallThatWasNotDone();
        callsThatAreNotNamed();
        allIsAsAhead();
        theLastOfAllCalls();
        Bounds.end();
    }

    private static Bounds.Call undo() {
        return x -> Bounds.bit(x.undo());
    }

    /** n calls that were done; behind each, SETTING 0 is tried unlike ahead of it. */
    private static Bounds.Steps calls(int n) {
        return x -> {
            for (int i = 1; i <= n; i++) {
                x.plan(0, i % 10);
            }
        };
    }

    private static void noneToTakeBack() {
        Bounds.says("promise 31", "false if there is none");
        Bounds.refused("undo() of a new object", x -> { }, undo());
        for (int k = 1; k <= 6; k++) {
            int count = k;
            Bounds.Steps allBack = x -> {
                Bounds.full(count).on(x);
                for (int i = 0; i < 6; i++) {
                    x.undo();
                }
            };
            Bounds.same("six of six are taken back", x -> { }, allBack, KEPT + 1);
            Bounds.refused("a seventh undo() of six", allBack, undo());
        }
        TrialDesk x = new TrialDesk();
        for (int i = 0; i < 20; i++) {
            Bounds.due("undo() number " + i, x.undo(), false);
        }
        x.plan(0, 1);
        Bounds.due("undo() of the one call", x.undo(), true);
        Bounds.due("undo() of none", x.undo(), false);
    }

    private static void theLatestEight() {
        Bounds.says("promise 31", "(the latest 8 are kept)");
        for (int n = 0; n <= 20; n++) {
            TrialDesk x = Bounds.made(calls(n));
            int kept = Math.min(n, KEPT);
            for (int i = 1; i <= kept; i++) {
                Bounds.due("undo() number " + i + " of " + n, x.undo(), true);
                Bounds.due("SETTING 0", x.about(100), (n - i) % 10);
            }
            for (int i = 0; i < 3; i++) {
                Bounds.due("undo() beyond the kept of " + n, x.undo(), false);
                Bounds.due("SETTING 0", x.about(100), (n - kept) % 10);
            }
            Bounds.due("a call behind it", x.plan(0, 7), true);
            Bounds.due("undo() of that", x.undo(), true);
            Bounds.due("SETTING 0", x.about(100), (n - kept) % 10);
            Bounds.due("undo() of no other", x.undo(), false);
        }
        for (int n : new int[] {7, 8, 9}) {
            Bounds.Steps back = x -> {
                calls(n).on(x);
                for (int i = 0; i < KEPT; i++) {
                    x.undo();
                }
            };
            Bounds.refused("a ninth undo() of " + n, back, undo());
        }
    }

    private static void doneAndNotTakenBack() {
        Bounds.says("promise 31", "the latest call .. that was done and not taken back");
        TrialDesk x = Bounds.made(calls(3));
        x.undo();
        x.plan(1, 5);
        Bounds.due("undo() of plan(1, 5)", x.undo(), true);
        Bounds.planIs("undo() of plan(1, 5)", x, 2, 0, 0, 0, 0, 0, 0, 0);
        Bounds.due("undo() of the second", x.undo(), true);
        Bounds.planIs("the third does not come again", x, 1, 0, 0, 0, 0, 0, 0, 0);
        Bounds.due("undo() of the first", x.undo(), true);
        Bounds.due("no more", x.undo(), false);
        // nine calls and one taken back leave seven kept; one more makes them eight
        x = Bounds.made(calls(9));
        x.undo();
        x.plan(7, 1);
        for (int i = 0; i < KEPT; i++) {
            Bounds.due("undo() number " + i, x.undo(), true);
        }
        Bounds.planIs("as ahead of the second call", x, 1, 0, 0, 0, 0, 0, 0, 0);
        Bounds.due("the first is not kept", x.undo(), false);
        Bounds.planIs("as ahead of the second call still", x, 1, 0, 0, 0, 0, 0, 0, 0);
    }

    /** Some calls, some taken back, and calls again, around the eight places and beyond them. */
    private static void callsTakenBackAndCallsBehind() {
        Bounds.says("promise 31", "done and not taken back (the latest 8 are kept)");
        for (int first = 0; first <= 18; first++) {
            for (int back = 0; back <= 10; back++) {
                for (int second = 0; second <= 18; second++) {
                    walk(first, back, second);
                }
            }
        }
    }

    private static void walk(int first, int back, int second) {
        String run = first + " calls, " + back + " undo(), " + second + " calls";
        TrialDesk x = new TrialDesk();
        List<Integer> kept = new ArrayList<>();
        int now = 0;
        for (int i = 0; i < first + back + second; i++) {
            if (i >= first && i < first + back) {
                Bounds.due(run + ", undo()", x.undo(), !kept.isEmpty());
                now = kept.isEmpty() ? now : kept.remove(kept.size() - 1);
            } else {
                kept.add(now);
                if (kept.size() > KEPT) {
                    kept.remove(0);
                }
                now = (now + 1 + i % 8) % 10;
                x.plan(3, now);
            }
        }
        Bounds.due(run + ", SETTING 3", x.about(103), now);
        while (!kept.isEmpty()) {
            now = kept.remove(kept.size() - 1);
            Bounds.due(run + ", undo()", x.undo(), true);
            Bounds.due(run + ", SETTING 3 behind undo()", x.about(103), now);
        }
        Bounds.due(run + ", no more", x.undo(), false);
        Bounds.due(run + ", SETTING 3 at last", x.about(103), now);
    }

    private static final String[] NAMED = {"factors", "term", "drop", "plan", "clear", "best", "swap", "word", "part",
        "bestPart", "see", "forget"};

    /** One call of each name, done with a change on the desk below; whether it was done. */
    private static Bounds.Call change(String name) {
        switch (name) {
            case "factors": return x -> Bounds.bit(x.factors(4));
            case "term": return x -> Bounds.bit(x.term(5) != NONE);
            case "drop": return x -> Bounds.bit(x.drop(1));
            case "plan": return x -> Bounds.bit(x.plan(0, 9));
            case "clear": return x -> {
                x.clear();
                return 1;
            };
            case "best": return x -> Bounds.bit(x.best(3));
            case "swap": return x -> Bounds.bit(x.swap());
            case "word": return x -> Bounds.bit(x.word(1, 6, -1));
            case "part": return x -> Bounds.bit(x.part(2) != NONE);
            case "bestPart": return x -> Bounds.bit(x.bestPart(2));
            case "see": return x -> Bounds.bit(x.see(5, -1000) != NONE);
            default: return x -> {
                x.forget();
                return 1;
            };
        }
    }

    private static Bounds.Steps desk() {
        return x -> {
            x.term(1);
            x.term(2);
            x.plan(0, 3);
            x.plan(1, 2);
            x.plan(2, 1);
            x.word(2, 7, -1);
            x.see(3, 40);
        };
    }

    private static void eachCallThatIsNamed() {
        Bounds.says("promise 31", "factors(), term(), drop(), plan(), clear(), best(), swap(), word(), part(), bestPart(), see(), forget()");
        for (String name : NAMED) {
            Bounds.due(name + "() is done", change(name).of(Bounds.made(desk())), 1);
            Bounds.isTakenBack(name + "()", desk(), change(name));
            for (String other : NAMED) {
                // the second may be refused behind the first, and then one undo() is enough
                Bounds.same(name + "(), " + other + "(), undo() of what was done", desk(), Bounds.then(desk(), x -> {
                    long done = change(name).of(x) + change(other).of(x);
                    for (int i = 0; i < done; i++) {
                        x.undo();
                    }
                }), 6);
            }
        }
        // the ninth of them drives out the first, whatever its name
        for (String name : NAMED) {
            Bounds.Steps nine = x -> {
                change(name).of(x);
                for (int i = 0; i < KEPT; i++) {
                    x.forget();
                }
                for (int i = 0; i < KEPT; i++) {
                    x.undo();
                }
            };
            Bounds.same(name + "() is kept no more", Bounds.then(desk(), d -> change(name).of(d)),
                Bounds.then(desk(), nine), 0);
            Bounds.due("undo() of " + name + "()", Bounds.made(Bounds.then(desk(), nine)).undo(), false);
        }
    }

    private static void eachNamedCallWithoutAChange() {
        Bounds.says("promise 31", "All is as ahead of the latest call of .. that was done [without a change]");
        Bounds.isTakenBack("factors(3) of a new object", x -> { }, x -> Bounds.bit(x.factors(3)));
        Bounds.isTakenBack("plan(), the same again", desk(), x -> Bounds.bit(x.plan(0, 3)));
        Bounds.isTakenBack("plan() of none", desk(), x -> Bounds.bit(x.plan(7, 0)));
        Bounds.isTakenBack("clear() of nothing", x -> x.term(1), change("clear"));
        Bounds.isTakenBack("best(), the same again", x -> x.best(2), x -> Bounds.bit(x.best(2)));
        Bounds.isTakenBack("best(0) of nothing", x -> x.term(1), x -> Bounds.bit(x.best(0)));
        Bounds.isTakenBack("word(), the same again", desk(), x -> Bounds.bit(x.word(2, 7, -1)));
        Bounds.isTakenBack("word() of none", desk(), x -> Bounds.bit(x.word(0, 0, 0)));
        Bounds.isTakenBack("part(), the same again", x -> x.part(1), x -> x.part(1));
        Bounds.isTakenBack("bestPart(), the same again", x -> x.bestPart(2), x -> Bounds.bit(x.bestPart(2)));
        Bounds.isTakenBack("forget() of nothing", x -> x.term(1), change("forget"));
    }

    private static void eachCallThatWasNotDone() {
        Bounds.says("promise 31", "that was done [not: a call that was refused]");
        Bounds.Steps nine = Bounds.then(desk(), calls(2));
        for (Bounds.Steps ahead : List.of(desk(), nine)) {
            Bounds.refused("factors(7)", ahead, x -> Bounds.bit(x.factors(7)));
            Bounds.refused("term(8)", ahead, x -> x.term(8), NONE);
            Bounds.refused("drop(3)", ahead, x -> Bounds.bit(x.drop(3)));
            Bounds.refused("plan(8, 1)", ahead, x -> Bounds.bit(x.plan(8, 1)));
            Bounds.refused("best(41)", ahead, x -> Bounds.bit(x.best(41)));
            Bounds.refused("word(4, 1, 1)", ahead, x -> Bounds.bit(x.word(4, 1, 1)));
            Bounds.refused("part(0)", ahead, x -> x.part(0), NONE);
            Bounds.refused("bestPart(4)", ahead, x -> Bounds.bit(x.bestPart(4)));
            Bounds.refused("see(0, 1001)", ahead, x -> x.see(0, 1001), NONE);
        }
        Bounds.refused("swap()", x -> x.plan(0, 1), x -> Bounds.bit(x.swap()));
    }

    private static void callsThatAreNotNamed() {
        Bounds.says("promise 31", "the latest call of .. [not: one that only asks]");
        List<Bounds.Call> asking = List.of(x -> x.about(4), x -> x.mark(1, 1), x -> x.table(1, 1), x -> x.worth(),
            x -> x.known(1, 1, 1, 1, 1), x -> x.spread(1, 1, 1, 1, 1, 0), x -> x.widest(2), x -> x.needed(), x -> x.bests(3),
            x -> x.next(), x -> x.alike(3), x -> x.alikeOf(3, 1), x -> x.length(0), x -> x.chain(), x -> x.chainOf(2),
            x -> x.weight(1, 1, 1, 1, 1, 0), x -> x.miss(0));
        for (int i = 0; i < asking.size(); i++) {
            Bounds.same("asking " + i, desk(), Bounds.and(desk(), asking.get(i)), KEPT + 1);
        }
    }

    private static void allIsAsAhead() {
        Bounds.says("promise 31", "All is as ahead of the latest call");
        for (int k = 1; k <= 6; k++) {
            for (int other = 1; other <= 6; other++) {
                int count = other;
                Bounds.Steps there = Bounds.then(Bounds.full(k), x -> {
                    x.factors(count);
                    x.plan(1, 4);
                    x.undo();
                    x.undo();
                });
                Bounds.same("K " + k + ", factors(" + other + "), plan(), both taken back", Bounds.full(k), there, 6);
            }
        }
        // answers that were found ahead of undo() must not stay behind it
        TrialDesk x = new TrialDesk();
        x.plan(0, 1);
        x.plan(7, 1);
        Bounds.due("chain()", x.chain(), 3);
        x.plan(7, 0);
        Bounds.due("chain() of one", x.chain(), 0);
        x.undo();
        Bounds.due("chain() of two again", x.chain(), 3);
        Bounds.due("chainOf(1)", x.chainOf(1), 7);
        Bounds.due("bests(2) of TERM 0", x.bests(2), 36);
        x.term(1);
        Bounds.due("bests(2) of two TERMS", x.bests(2), 16);
        x.undo();
        Bounds.due("bests(2) of TERM 0 again", x.bests(2), 36);
        x.factors(2);
        Bounds.due("bests(2) of 4 SETTINGS", x.bests(2), 10);
        x.undo();
        Bounds.due("bests(2) of 8 SETTINGS again", x.bests(2), 36);
    }

    private static void theLastOfAllCalls() {
        Bounds.says("What it is", "An object is used for at most 512 calls after it has been made");
        TrialDesk x = new TrialDesk();
        for (int call = 1; call <= 510; call++) {
            Bounds.due("call " + call, x.plan(call % 8, call % 6), true);
        }
        Bounds.due("call 511", x.undo(), true);
        // 509 tried SETTING 5 five times, 510 SETTING 6 none, which was taken back: 502 had tried it four times
        Bounds.due("call 512", x.about(106), 4);
        x = new TrialDesk();
        x.factors(6);
        for (int call = 2; call <= 511; call++) {
            boolean done = call <= 61;
            Bounds.due("call " + call, x.see(call % 64, 1000), done ? call - 1 : NONE);
        }
        Bounds.due("call 512", x.weight(9, 0, 0, 0, 0, 0), 9000);
        x = new TrialDesk();
        for (int call = 1; call <= 511; call++) {
            Bounds.due("call " + call, x.undo(), false);
        }
        Bounds.due("call 512", x.factors(1), true);
    }
}
