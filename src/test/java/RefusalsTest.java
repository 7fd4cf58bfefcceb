import java.util.List;
import java.util.function.Supplier;

/**
 * Promise 15: "Where nothing else is said, a call that is refused (by a code below 0 that is named, or
 * by false) changes nothing." Each refusal is made on desks in many states; and so are the calls that
 * only tell something.
 */
public final class RefusalsTest {
    private static final int BAD = RewritingDesk.BAD;
    private static final int NONE = RewritingDesk.NONE;
    private static final int LEAST = Integer.MIN_VALUE;
    private static final int GREATEST = Integer.MAX_VALUE;

    private static final List<Supplier<RewritingDesk>> STATES = List.of(RewritingDesk::new,
        () -> worked("4 0"), () -> worked("4 0 9 2 1"), () -> worked("5 x0 4 x0"), () -> worked("7 0"),
        () -> worked(""), () -> worked(Check.repeated("6", 29) + " 3"), RefusalsTest::withoutResult,
        RefusalsTest::withoutOpenPair);

    private RefusalsTest() {
    }

    public static void main(String[] args) {
        promise2TokenFalse();
        promise2TokenFalseWhenFull();
        promise4RuleBad();
        promise5DropFalse();
        promise7EqualRefused();
        promise11NoToken();
        promise12MatchingRefused();
        promise13PairsBad();
        promise14OpenBadOrNone();
        promise15BadBeforeNone();
        callsThatTell();
        Check.end("RefusalsTest");
    }

    /** Rules with pairs of two kinds, a result, steps and a place; rules 5 to 7 are absent. */
    private static RewritingDesk worked(String draft) {
        RewritingDesk desk = Check.deskWith("0 1", "0 2", "4 4 x0 x0", "9 #1 x0 x0", "5 w0 10 w0 #1");
        desk.reduce();
        Check.reduces(desk, "7 0 5 #-2", RewritingDesk.OK, 3, "7 1 #-1");
        desk.wipe();
        return Check.put(desk, draft);
    }

    private static RewritingDesk withoutResult() {
        RewritingDesk desk = worked("0 0");
        Check.due("equal", desk.equal(), 1);
        return desk;
    }

    private static RewritingDesk withoutOpenPair() {
        RewritingDesk desk = worked("3");
        Check.due("drop", desk.drop(1), true);
        Check.due("reduce", desk.reduce(), RewritingDesk.OK);
        return desk;
    }

    private static void refusesToken(Supplier<RewritingDesk> state, int kind, int value) {
        String call = "token " + kind + " " + value;
        Watch.unchanged(call, state, desk -> Check.due(call, desk.token(kind, value), false));
    }

    // "False, changing nothing, if kind is outside 0..3, the value .."
    private static void promise2TokenFalse() {
        int[][] tokens = {{-1, 0}, {4, 0}, {LEAST, 3}, {GREATEST, 3}, {0, -1}, {0, 12}, {0, LEAST}, {0, GREATEST},
            {2, -1}, {2, 4}, {2, LEAST}, {2, GREATEST}, {3, -1}, {3, 4}, {3, LEAST}, {3, GREATEST}};
        for (Supplier<RewritingDesk> state : STATES) {
            for (int[] token : tokens) {
                refusesToken(state, token[0], token[1]);
            }
        }
    }

    // "or there are 30"
    private static void promise2TokenFalseWhenFull() {
        for (int kind = 0; kind <= 3; kind++) {
            refusesToken(() -> worked(Check.repeated("6", 29) + " 3"), kind, 0);
            refusesToken(() -> worked(Check.repeated("x0", 30)), kind, 3);
            refusesToken(() -> worked(Check.repeated("6", 28) + " 3 1"), kind, 1);
        }
    }

    // "BAD, and the draft stays, if r is outside 0..7."
    private static void promise4RuleBad() {
        for (Supplier<RewritingDesk> state : STATES) {
            for (int r : new int[] {-1, 8, 9, LEAST, GREATEST}) {
                Watch.unchanged("rule " + r, state, desk -> Check.due("rule " + r, desk.rule(r), BAD));
            }
        }
    }

    // "Rule r is absent from now on: whether it was there."
    private static void promise5DropFalse() {
        for (Supplier<RewritingDesk> state : STATES) {
            for (int r : new int[] {-1, 8, 9, LEAST, GREATEST, 5, 7}) {
                Watch.unchanged("drop " + r, state, desk -> Check.due("drop " + r, desk.drop(r), false));
            }
        }
    }

    private static void refusesEqual(String draft, int code, int steps, int place) {
        RewritingDesk desk = worked("");
        Check.put(desk, "3 3");
        Check.due("rule 5", desk.rule(5), RewritingDesk.OK);
        Check.put(desk, "6 x0 7 x0 x0");
        Check.due("rule 6", desk.rule(6), RewritingDesk.OK);
        Check.put(desk, draft);
        Check.due("equal of " + draft, desk.equal(), code);
        Check.due("steps after equal of " + draft, desk.steps(), steps);
        Check.due("place after equal of " + draft, desk.place(), place);
        Check.due("size after equal of " + draft, desk.size(), 0);
        Check.due("pairs after equal of " + draft, desk.pairs(0), 3);
        Check.due("wipe after equal of " + draft, desk.wipe(), draft.isEmpty() ? 0 : draft.split(" ").length);
        Check.reduces(desk, "7 0 5 #-2", RewritingDesk.OK, 3, "7 1 #-1");
        for (int r = 0; r <= 7; r++) {
            Check.due("drop " + r + " after equal of " + draft, desk.drop(r), r < 7);
        }
    }

    // "-SYNTAX, -LONG, -LARGE else": the draft and the rules stay, and what else is said happens.
    private static void promise7EqualRefused() {
        refusesEqual("", -RewritingDesk.SYNTAX, 3, 0);
        refusesEqual("0 1 2", -RewritingDesk.SYNTAX, 3, 2);
        refusesEqual("0 x2", -RewritingDesk.SYNTAX, 3, 1);
        refusesEqual("0 3", -RewritingDesk.LONG, 61, 0);
        refusesEqual("6 " + Check.repeated("4 5", 8) + " 1 0", -RewritingDesk.LARGE, 1, 0);
    }

    // "-1 if there is none"
    private static void promise11NoToken() {
        for (Supplier<RewritingDesk> state : STATES) {
            for (int k : new int[] {-1, 3, 30, LEAST, GREATEST}) {
                Watch.unchanged("at " + k, state, desk -> Check.due("at " + k, desk.at(k), -1));
            }
        }
    }

    private static void refusesMatching(String draft, int code) {
        Watch.unchanged("matching of " + draft, () -> worked(draft),
            desk -> Check.due("matching of " + draft, desk.matching(), code));
    }

    // "NONE if there is none, BAD if the draft is no such term"
    private static void promise12MatchingRefused() {
        refusesMatching("4 0", NONE);
        refusesMatching("9 2 1", NONE);
        refusesMatching("7 0 1", NONE);
        refusesMatching("", BAD);
        refusesMatching("x0", BAD);
        refusesMatching("4 w1", BAD);
        refusesMatching("7 0", BAD);
        refusesMatching("0 1", BAD);
    }

    // "BAD for any other"
    private static void promise13PairsBad() {
        for (Supplier<RewritingDesk> state : STATES) {
            for (int what : new int[] {-1, 4, LEAST, GREATEST}) {
                Watch.unchanged("pairs " + what, state, desk -> Check.due("pairs " + what, desk.pairs(what), BAD));
            }
        }
    }

    // "NONE if there is none; BAD for any other what"
    private static void promise14OpenBadOrNone() {
        for (Supplier<RewritingDesk> state : STATES) {
            for (int what : new int[] {-1, 3, LEAST, GREATEST}) {
                Watch.unchanged("open " + what, state, desk -> Check.due("open " + what, desk.open(what), BAD));
            }
        }
        for (int what = 0; what <= 2; what++) {
            int asked = what;
            Watch.unchanged("open " + what, RewritingDesk::new,
                desk -> Check.due("open " + asked, desk.open(asked), NONE));
            Watch.unchanged("open " + what, RefusalsTest::withoutOpenPair,
                desk -> Check.due("open " + asked, desk.open(asked), NONE));
        }
    }

    // "open: BAD is tested before NONE."
    private static void promise15BadBeforeNone() {
        for (int what : new int[] {LEAST, LEAST + 1, -2, -1, 3, 4, GREATEST}) {
            Check.due("open " + what + " without rules", new RewritingDesk().open(what), BAD);
            Check.due("open " + what + " without open pairs", withoutOpenPair().open(what), BAD);
            Check.due("open " + what + " with open pairs", worked("").open(what), BAD);
        }
        for (int what = 0; what <= 2; what++) {
            Check.due("open " + what + " without rules", new RewritingDesk().open(what), NONE);
            Check.due("open " + what + " without open pairs", withoutOpenPair().open(what), NONE);
        }
    }

    // What a call tells isn't changed by its being asked.
    private static void callsThatTell() {
        for (Supplier<RewritingDesk> state : STATES) {
            Watch.unchanged("place", state, RewritingDesk::place);
            Watch.unchanged("steps", state, RewritingDesk::steps);
            Watch.unchanged("size", state, RewritingDesk::size);
            Watch.unchanged("matching", state, RewritingDesk::matching);
            Watch.unchanged("at", state, desk -> desk.at(0));
            Watch.unchanged("pairs", state, desk -> desk.pairs(0));
            Watch.unchanged("open", state, desk -> desk.open(0));
        }
    }
}
