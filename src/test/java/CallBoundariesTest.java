import java.util.function.Supplier;

/** Boundary cases of promises 1 to 12, a method for each sentence that names one. */
public final class CallBoundariesTest {
    private static final int OK = RewritingDesk.OK;
    private static final int SYNTAX = RewritingDesk.SYNTAX;
    private static final int LONG = RewritingDesk.LONG;
    private static final int LARGE = RewritingDesk.LARGE;
    private static final int BAD = RewritingDesk.BAD;
    private static final int NONE = RewritingDesk.NONE;

    private static final int LEAST = Integer.MIN_VALUE;
    private static final int GREATEST = Integer.MAX_VALUE;
    private static final long NUMBER = 4294967296L;

    private static final String SIZE_15 = Check.repeated("6", 14) + " 3";
    private static final String SIZE_30 = Check.repeated("6", 29) + " 3";

    private CallBoundariesTest() {
    }

    public static void main(String[] args) {
        promise1NoRulesNoTokensNoResult();
        promise2KindsOutside();
        promise2SymbolsOutside();
        promise2NamesOutside();
        promise2ThereAre30();
        promise3AllTokens();
        promise4EmptyAfterIt();
        promise4MustBeTwoTerms();
        promise4TheRuleStays();
        promise4Outside0To7();
        promise5WhetherItWasThere();
        promise6OneTermWithoutNames();
        promise6NoResultThen();
        promise7TwoTermsWithoutNames();
        promise7TheSameOrNot();
        promise7StepsCountedOn();
        promise7NoResultThen();
        promise8ThirdTerm();
        promise8NameInReduceOrEqual();
        promise8LeftThatMayNotBeOne();
        promise8FifthNine();
        promise8NameThatLeftHasNot();
        promise8SomethingMissing();
        promise8TheLatest();
        promise8NoneDid();
        promise9NotSyntax();
        promise9AtLong();
        promise10NoResult();
        promise11TheKthToken();
        promise11KindAndValue();
        promise12AsItIs();
        promise12NoSuchTerm();
        Check.end("CallBoundariesTest");
    }

    // "No rules, no tokens, no result."
    private static void promise1NoRulesNoTokensNoResult() {
        RewritingDesk used = Check.deskWith("0 1", "0 2");
        Check.reduces(used, "4 0", OK, 1, "4 1");
        Check.put(used, "0");
        Check.due("reduce of two terms", used.reduce(), SYNTAX);
        // What another object was used for is nothing to a new one.
        Check.due("tokens", new RewritingDesk().wipe(), 0);
        Check.due("rule of no tokens", new RewritingDesk().rule(0), SYNTAX);
        Check.due("reduce of no tokens", new RewritingDesk().reduce(), SYNTAX);
        Check.due("equal of no tokens", new RewritingDesk().equal(), -SYNTAX);
        Check.due("matching of no tokens", new RewritingDesk().matching(), BAD);
        Check.due("place", new RewritingDesk().place(), -1);
        Check.due("steps", new RewritingDesk().steps(), 0);
        Check.due("size", new RewritingDesk().size(), 0);
        for (int k = -1; k <= 30; k++) {
            Check.due("at " + k, new RewritingDesk().at(k), -1);
        }
        for (int r = 0; r <= 7; r++) {
            Check.due("drop " + r, new RewritingDesk().drop(r), false);
        }
        for (int what = 0; what <= 3; what++) {
            Check.due("pairs " + what, new RewritingDesk().pairs(what), 0);
        }
        for (int what = 0; what <= 2; what++) {
            Check.due("open " + what, new RewritingDesk().open(what), NONE);
        }
        Check.reduces(new RewritingDesk(), "0", OK, 0, "0");
    }

    private static void takes(int kind, int value, boolean does) {
        RewritingDesk desk = new RewritingDesk();
        Check.due("token " + kind + " " + value, desk.token(kind, value), does);
        Check.due("wipe after token " + kind + " " + value, desk.wipe(), does ? 1 : 0);
    }

    // "False, changing nothing, if kind is outside 0..3"
    private static void promise2KindsOutside() {
        for (int value : new int[] {LEAST, -1, 0, 3, 4, GREATEST}) {
            for (int kind : new int[] {LEAST, LEAST + 1, -2, -1, 4, 5, GREATEST - 1, GREATEST}) {
                takes(kind, value, false);
            }
        }
        for (int kind = 0; kind <= 3; kind++) {
            takes(kind, 0, true);
        }
    }

    // "the value of a SYMBOL outside 0..11"
    private static void promise2SymbolsOutside() {
        for (int value = -20; value <= 20; value++) {
            takes(0, value, value >= 0 && value <= 11);
        }
        takes(0, LEAST, false);
        takes(0, GREATEST, false);
        for (int value : new int[] {LEAST, -20, -1, 0, 11, 12, 20, GREATEST}) {
            takes(1, value, true);
        }
    }

    // "of a VARIABLE or WHOLE outside 0..3"
    private static void promise2NamesOutside() {
        for (int kind = 2; kind <= 3; kind++) {
            for (int value = -20; value <= 20; value++) {
                takes(kind, value, value >= 0 && value <= 3);
            }
            takes(kind, LEAST, false);
            takes(kind, LEAST + 3, false);
            takes(kind, GREATEST, false);
        }
    }

    // "or there are 30"
    private static void promise2ThereAre30() {
        for (int kind = 0; kind <= 3; kind++) {
            RewritingDesk desk = new RewritingDesk();
            for (int n = 1; n <= 30; n++) {
                Check.due("token " + n + " of kind " + kind, desk.token(kind, 3), true);
            }
            for (int other = -1; other <= 4; other++) {
                Check.due("token 31 of kind " + other, desk.token(other, 0), false);
            }
            Check.due("wipe of 30", desk.wipe(), 30);
            Check.due("token after wipe", desk.token(kind, 0), true);
            Check.due("wipe of one", desk.wipe(), 1);
        }
        RewritingDesk desk = Check.put(new RewritingDesk(), SIZE_30);
        Check.due("token 31", desk.token(0, 0), false);
        Check.due("reduce of 30 tokens", desk.reduce(), OK);
        Check.due("the 30 tokens", Check.result(desk), SIZE_30);
    }

    // "Removes all tokens of the draft; answers their number."
    private static void promise3AllTokens() {
        RewritingDesk desk = Check.deskWith("0 1");
        for (int n = 0; n <= 30; n++) {
            Check.put(desk, Check.repeated("0", n));
            Check.due("wipe of " + n, desk.wipe(), n);
            Check.due("wipe of none", desk.wipe(), 0);
            Check.due("reduce of none", desk.reduce(), SYNTAX);
            Check.due("place of none", desk.place(), 0);
        }
        Check.reduces(desk, "4 0", OK, 1, "4 1");
        Check.due("wipe", desk.wipe(), 2);
        Check.due("the result stays", Check.result(desk), "4 1");
        Check.due("steps stay", desk.steps(), 1);
        Check.due("place stays", desk.place(), 0);
        Check.due("the rule stays", desk.drop(0), true);
    }

    // "The draft, which is empty after it"
    private static void promise4EmptyAfterIt() {
        String[] drafts = {"0 1", "4 x0 x0", SIZE_15 + " " + SIZE_15, "", "0", "0 1 2", "x0 0", "7 0",
            Check.repeated("9", 30), Check.repeated("x0", 30)};
        for (int n = 0; n < drafts.length; n++) {
            RewritingDesk desk = Check.put(new RewritingDesk(), drafts[n]);
            Check.due("rule of " + drafts[n], desk.rule(0), n < 3 ? OK : SYNTAX);
            Check.due("wipe after rule of " + drafts[n], desk.wipe(), 0);
        }
    }

    // "must be two terms, LEFT and RIGHT: they are rule r from now on: OK"
    private static void promise4MustBeTwoTerms() {
        for (int n = 0; n <= 30; n++) {
            RewritingDesk desk = Check.put(new RewritingDesk(), Check.repeated("0", n));
            Check.due("rule of " + n + " terms", desk.rule(0), n == 2 ? OK : SYNTAX);
            Check.due("place of " + n + " terms", desk.place(), n == 2 ? -1 : n < 2 ? n : 2);
            Check.due("drop of " + n + " terms", desk.drop(0), n == 2);
        }
        RewritingDesk full = Check.deskWith(SIZE_15 + " " + Check.repeated("5", 14) + " 2");
        Check.reduces(full, SIZE_15, OK, 1, Check.repeated("5", 14) + " 2");
        RewritingDesk anew = Check.deskWith("4 x0 x0");
        Check.put(anew, "5 0 1");
        Check.due("rule 0 anew", anew.rule(0), OK);
        Check.reduces(anew, "4 5 0", OK, 1, "4 1");
        // A shorter LEFT and RIGHT, with fewer ways, leave nothing of the ones before.
        RewritingDesk shorter = Check.deskWith("9 9 9 9 0 1 2 3 3 7 7 7 1 1 1 1");
        Check.put(shorter, "9 x0 4 x1 5 x1");
        Check.due("rule 0 shorter", shorter.rule(0), OK);
        Check.reduces(shorter, "9 0 4 3", OK, 1, "5 3");
        Check.reduces(shorter, "9 9 9 9 0 1 2 3 3", OK, 0, "9 3 9 3 9 2 9 0 1");
    }

    // "Else SYNTAX, and the rule stays."
    private static void promise4TheRuleStays() {
        for (String draft : new String[] {"", "4 0", "4 0 1 2", "x0 0", "4 x0 x1", "9 9 9 9 9", "5 #2"}) {
            RewritingDesk desk = Check.deskWith("4 0 1", "4 2 3");
            Check.put(desk, draft);
            Check.due("rule of " + draft, desk.rule(1), SYNTAX);
            Check.reduces(desk, "7 4 0 4 2", OK, 2, "7 1 3");
            Check.due("drop 1", desk.drop(1), true);
            Check.due("drop 2", desk.drop(2), false);
        }
        // The result and the steps are nothing to rule.
        RewritingDesk desk = Check.deskWith("0 1");
        Check.reduces(desk, "4 0", OK, 1, "4 1");
        Check.due("rule of one term", desk.rule(0), SYNTAX);
        Check.due("result after SYNTAX", Check.result(desk), "4 1");
        Check.due("steps after SYNTAX", desk.steps(), 1);
        Check.put(desk, "0 2");
        Check.due("rule", desk.rule(0), OK);
        Check.due("result after OK", Check.result(desk), "4 1");
        Check.due("steps after OK", desk.steps(), 1);
    }

    // "BAD, and the draft stays, if r is outside 0..7."
    private static void promise4Outside0To7() {
        for (int r : new int[] {LEAST, LEAST + 7, -8, -1, 8, 9, 16, 256, GREATEST}) {
            RewritingDesk desk = Check.put(new RewritingDesk(), "0 1");
            Check.due("rule " + r, desk.rule(r), BAD);
            Check.due("place after rule " + r, desk.place(), -1);
            Check.due("rule 3 of what stayed", desk.rule(3), OK);
            Check.reduces(desk, "0", OK, 1, "1");
            // BAD comes before SYNTAX.
            desk.wipe();
            Check.put(desk, "0 1 2");
            Check.due("rule " + r + " of three terms", desk.rule(r), BAD);
            Check.due("place after rule " + r + " of three terms", desk.place(), -1);
            Check.due("wipe after rule " + r, desk.wipe(), 3);
        }
        for (int r = 0; r <= 7; r++) {
            RewritingDesk desk = Check.put(new RewritingDesk(), "0 1");
            Check.due("rule " + r, desk.rule(r), OK);
            for (int other = 0; other <= 7; other++) {
                Check.due("drop " + other + " after rule " + r, desk.drop(other), other == r);
            }
        }
    }

    // "Rule r is absent from now on: whether it was there."
    private static void promise5WhetherItWasThere() {
        RewritingDesk desk = new RewritingDesk();
        for (int r = 0; r <= 7; r++) {
            Check.put(desk, "4 x0 #" + r);
            Check.due("rule " + r, desk.rule(r), OK);
        }
        for (int r : new int[] {LEAST, LEAST + 7, -1, 8, 9, GREATEST}) {
            Check.due("drop " + r, desk.drop(r), false);
        }
        for (int r = 0; r <= 7; r++) {
            Check.reduces(desk, "4 0", OK, 1, "#" + r);
            Check.due("drop " + r, desk.drop(r), true);
            Check.due("drop " + r + " again", desk.drop(r), false);
            Check.due("the draft stays", desk.wipe(), 2);
            Check.due("the result stays", Check.result(desk), "#" + r);
        }
        Check.reduces(desk, "4 0", OK, 0, "4 0");
        desk.wipe();
        Check.put(desk, "4 0 1");
        Check.due("rule 7 after drop", desk.rule(7), OK);
        Check.due("drop 7 once more", desk.drop(7), true);
    }

    private static void reduce(String draft, int code, int place) {
        RewritingDesk desk = Check.put(new RewritingDesk(), draft);
        Check.due("reduce of " + draft, desk.reduce(), code);
        Check.due("place of " + draft, desk.place(), place);
        Check.due("the draft stays: " + draft, desk.wipe(), draft.isEmpty() ? 0 : draft.split(" ").length);
    }

    private static void equal(String draft, int code, int place) {
        RewritingDesk desk = Check.put(new RewritingDesk(), draft);
        Check.due("equal of " + draft, desk.equal(), code);
        Check.due("place of " + draft, desk.place(), place);
        Check.due("the draft stays: " + draft, desk.wipe(), draft.isEmpty() ? 0 : draft.split(" ").length);
    }

    // "The draft (it stays) must be one term without variables and wholes"
    private static void promise6OneTermWithoutNames() {
        for (int n = 0; n <= 30; n++) {
            reduce(Check.repeated("#9", n), n == 1 ? OK : SYNTAX, n == 1 ? -1 : n == 0 ? 0 : 1);
        }
        for (int value = 0; value <= 3; value++) {
            reduce("x" + value, SYNTAX, 0);
            reduce("w" + value, SYNTAX, 0);
            reduce("4 x" + value, SYNTAX, 1);
            reduce("7 #0 w" + value, SYNTAX, 2);
        }
        reduce(SIZE_30, OK, -1);
        reduce(Check.repeated("6", 30), SYNTAX, 30);
        reduce(Check.repeated("6", 28) + " 3 3", SYNTAX, 29);
    }

    // "its normal form is the result: OK. Else SYNTAX, LONG or LARGE; there is no result then."
    private static void promise6NoResultThen() {
        RewritingDesk desk = Check.deskWith("2 2", "5 x0 7 x0 x0");
        String[] terms = {"4 4", "x0", "0 0", "", "2", "4 2", "5 " + SIZE_15};
        int[] codes = {SYNTAX, SYNTAX, SYNTAX, SYNTAX, LONG, LONG, LARGE};
        for (int n = 0; n < terms.length; n++) {
            Check.reduces(desk, "4 3", OK, 0, "4 3");
            desk.wipe();
            Check.put(desk, terms[n]);
            for (int time = 0; time < 2; time++) {
                Check.due("reduce of " + terms[n], desk.reduce(), codes[n]);
                Check.due("size after " + terms[n], desk.size(), 0);
                Check.due("at 0 after " + terms[n], desk.at(0), -1);
                Check.due("at 1 after " + terms[n], desk.at(1), -1);
            }
        }
        // A smaller result leaves nothing of the greater one before.
        Check.reduces(desk, SIZE_30, OK, 0, SIZE_30);
        Check.reduces(desk, "3", OK, 0, "3");
        Check.due("at 1 of a smaller result", desk.at(1), -1);
    }

    // "The draft (it stays) must be two terms without variables and wholes"
    private static void promise7TwoTermsWithoutNames() {
        for (int n = 0; n <= 30; n++) {
            equal(Check.repeated("#9", n), n == 2 ? 1 : -SYNTAX, n == 2 ? -1 : n < 2 ? n : 2);
        }
        for (int value = 0; value <= 3; value++) {
            equal("x" + value + " 0", -SYNTAX, 0);
            equal("w" + value + " 0", -SYNTAX, 0);
            equal("0 x" + value, -SYNTAX, 1);
            equal("0 w" + value, -SYNTAX, 1);
            equal("4 0 4 w" + value, -SYNTAX, 3);
        }
        equal(SIZE_15 + " " + SIZE_15, 1, -1);
        equal(SIZE_15 + " 4 " + Check.repeated("6", 13) + " 3", 0, -1);
        equal(SIZE_30, -SYNTAX, 30);
        equal(Check.repeated("6", 28) + " 3 4", -SYNTAX, 30);
        equal(Check.repeated("6", 28) + " 3 3", 0, -1);
        equal("3 " + Check.repeated("6", 28) + " 3", 0, -1);
        // LEFT's limits are none of equal's: numbers alone, and more than four symbols 9.
        equal("9 9 9 9 9 9 0 0 0 0 0 0 0 9 0 9 0 9 0 9 0 9 0 9 0 0", 1, -1);
    }

    // "1 if their normal forms (the first, then the second ..) are the same, 0 if not"
    private static void promise7TheSameOrNot() {
        String[] terms = {"#0", "#-1", "0", "1", "4 0", "4 4 0", "5 0", "7 0 1", "7 1 0", "7 0 0", "8 0 1", "7 #0 1",
            "4 #0", "9 0 1", "10 0 1"};
        for (String one : terms) {
            for (String other : terms) {
                equal(one + " " + other, one.equals(other) ? 1 : 0, -1);
            }
        }
        equal("9 1 0 9 0 1", 1, -1);
        equal("10 #2147483647 #1 #-2147483648", 1, -1);
        // Normal forms of SIZE 30, the same and not the same in the last token alone.
        String grown = Check.repeated("6", 27);
        RewritingDesk large = Check.deskWith("0 " + grown + " 3", "1 " + grown + " 3", "2 " + grown + " #3");
        String[] others = {"4 4 0", "4 4 1", "4 4 2", "4 0"};
        for (int n = 0; n < others.length; n++) {
            large.wipe();
            Check.put(large, "4 4 0 " + others[n]);
            Check.due("equal of 4 4 0 and " + others[n], large.equal(), n < 2 ? 1 : 0);
        }
        // The end of the first one counts, whatever the second is.
        RewritingDesk desk = Check.deskWith("2 2", "5 x0 7 x0 x0");
        Check.put(desk, "2 5 " + SIZE_15);
        Check.due("equal: LONG, then LARGE", desk.equal(), -LONG);
        desk.wipe();
        Check.put(desk, "5 " + SIZE_15 + " 2");
        Check.due("equal: LARGE, then LONG", desk.equal(), -LARGE);
        Check.due("steps: LARGE, then LONG", desk.steps(), 1);
    }

    // "STEPS counted on"
    private static void promise7StepsCountedOn() {
        RewritingDesk desk = Check.deskWith("5 x0 x0", "6 x0 5 5 x0");
        // Symbols 6 and 5 of the first term, symbols 6 of the second, and the steps of both.
        int[][] runs = {{20, 0, 0, 60}, {0, 0, 20, 60}, {10, 0, 10, 60}, {9, 2, 10, 59},
            {10, 1, 10, 61}, {1, 0, 20, 61}, {20, 1, 0, 61}, {0, 1, 20, 61}};
        for (int[] run : runs) {
            String first = Check.repeated("6", run[0]) + " " + Check.repeated("5", run[1]) + " 0";
            String second = Check.repeated("6", run[2]) + " 0";
            desk.wipe();
            Check.put(desk, first + " " + second);
            int steps = run[3];
            Check.due("equal of " + first + ", " + second, desk.equal(), steps > 60 ? -LONG : 1);
            Check.due("steps of " + first + ", " + second, desk.steps(), steps);
        }
    }

    // "-SYNTAX, -LONG, -LARGE else. There is no result then."
    private static void promise7NoResultThen() {
        RewritingDesk desk = Check.deskWith("2 2", "5 x0 7 x0 x0");
        String[] drafts = {"0 0", "0 1", "", "0", "0 0 0", "x0 0", "0 2", "2 0", "5 " + SIZE_15 + " 0"};
        int[] codes = {1, 0, -SYNTAX, -SYNTAX, -SYNTAX, -SYNTAX, -LONG, -LONG, -LARGE};
        for (int n = 0; n < drafts.length; n++) {
            Check.reduces(desk, "4 3", OK, 0, "4 3");
            desk.wipe();
            Check.put(desk, drafts[n]);
            Check.due("equal of " + drafts[n], desk.equal(), codes[n]);
            Check.due("size after equal of " + drafts[n], desk.size(), 0);
            Check.due("at 0 after equal of " + drafts[n], desk.at(0), -1);
        }
    }

    private static void rule(String draft, int code, int place) {
        RewritingDesk desk = Check.put(new RewritingDesk(), draft);
        Check.due("rule of " + draft, desk.rule(0), code);
        Check.due("place of " + draft, desk.place(), place);
    }

    // "a third term" (in reduce: a second)
    private static void promise8ThirdTerm() {
        rule("0 1 2", SYNTAX, 2);
        rule("0 1 x0", SYNTAX, 2);
        rule("4 x0 4 x0 x0", SYNTAX, 4);
        rule("0 1 7", SYNTAX, 2);
        rule(Check.repeated("6", 27) + " 3 3 3", SYNTAX, 29);
        equal("0 1 2", -SYNTAX, 2);
        equal("7 0 0 4 0 4", -SYNTAX, 5);
        reduce("0 1", SYNTAX, 1);
        reduce("0 x0", SYNTAX, 1);
        reduce("7 0 0 4", SYNTAX, 3);
    }

    // "a variable in reduce or equal"
    private static void promise8NameInReduceOrEqual() {
        reduce("x0", SYNTAX, 0);
        reduce("7 x0 x1", SYNTAX, 1);
        reduce("7 0 x1", SYNTAX, 2);
        reduce("7 w0", SYNTAX, 1);
        reduce(Check.repeated("6", 29) + " x3", SYNTAX, 29);
        equal("x0", -SYNTAX, 0);
        equal("0 x0", -SYNTAX, 1);
        equal("0 w0 0", -SYNTAX, 1);
        equal(Check.repeated("6", 28) + " 3 w3", -SYNTAX, 29);
    }

    // "LEFT that may not be one (at its first token)"
    private static void promise8LeftThatMayNotBeOne() {
        rule("#0", SYNTAX, 0);
        rule("#0 0", SYNTAX, 0);
        rule("x0 x0", SYNTAX, 0);
        rule("w0 w0 w0", SYNTAX, 0);
        rule("#9 9 9 9 9 9", SYNTAX, 0);
        rule("#9 x0", SYNTAX, 0);
        rule("0 #0", OK, -1);
    }

    // "the fifth symbol 9 in it"
    private static void promise8FifthNine() {
        rule("9 9 9 9 9", SYNTAX, 4);
        rule("9 9 9 9", SYNTAX, 4);
        rule("9 0 9 0 9 0 9 0 9", SYNTAX, 8);
        rule("9 0 9 0 9 0 9 0 0 9", SYNTAX, 10);
        rule("9 0 9 0 9 0 9 0 0 9 9 9 9 9 0 0 0 0 0 0", OK, -1);
        rule(Check.repeated("9 0", 15), SYNTAX, 8);
        reduce(Check.repeated("9", 14) + " " + Check.repeated("0", 15), OK, -1);
    }

    // "a variable or whole in RIGHT that LEFT hasn't"
    private static void promise8NameThatLeftHasNot() {
        rule("0 x0", SYNTAX, 1);
        rule("4 x0 x1", SYNTAX, 2);
        rule("4 x0 7 x0 x1", SYNTAX, 4);
        rule("4 x0 7 x1 x2", SYNTAX, 3);
        rule("4 x0 7 w0", SYNTAX, 3);
        rule("4 w0 7 w0 x0 0", SYNTAX, 4);
        rule("4 x0 7 x0 x0 x1", SYNTAX, 5);
    }

    // "or their number if something is missing"
    private static void promise8SomethingMissing() {
        for (int n = 0; n <= 30; n++) {
            reduce(Check.repeated("4", n), SYNTAX, n);
            equal(Check.repeated("4", n), -SYNTAX, n);
            rule(Check.repeated("4", n), SYNTAX, n);
            reduce(Check.repeated("11", n), SYNTAX, n);
        }
        rule("0", SYNTAX, 1);
        rule("0 7 1", SYNTAX, 3);
        rule(SIZE_30, SYNTAX, 30);
        equal("0", -SYNTAX, 1);
    }

    // "Where the latest rule, reduce or equal that answered SYNTAX found it"
    private static void promise8TheLatest() {
        RewritingDesk desk = Check.deskWith("2 2", "5 x0 7 x0 x0");
        Check.put(desk, "7 0 0 0");
        Check.due("reduce", desk.reduce(), SYNTAX);
        Check.due("place of reduce", desk.place(), 3);
        Check.due("equal of the same draft", desk.equal(), 0);
        Check.due("place after 0", desk.place(), 3);
        Check.reduces(desk, "0", OK, 0, "0");
        Check.due("place after OK", desk.place(), 3);
        Check.reduces(desk, "2", LONG, 61, "");
        Check.reduces(desk, "5 " + SIZE_15, LARGE, 1, "");
        Check.due("place after LONG and LARGE", desk.place(), 3);
        Check.due("rule 8", desk.rule(8), BAD);
        Check.due("place after BAD", desk.place(), 3);
        desk.wipe();
        Check.due("matching", desk.matching(), BAD);
        Check.due("place after matching", desk.place(), 3);
        Check.put(desk, "0 0");
        Check.due("equal of two terms", desk.equal(), 1);
        Check.due("place after 1", desk.place(), 3);
        Check.due("rule of two terms", desk.rule(7), OK);
        Check.due("place after OK of rule", desk.place(), 3);
        Check.put(desk, "0 1 2 3");
        Check.due("equal of four terms", desk.equal(), -SYNTAX);
        Check.due("place of equal", desk.place(), 2);
        Check.due("reduce of four terms", desk.reduce(), SYNTAX);
        Check.due("place of reduce", desk.place(), 1);
        Check.due("rule of four terms", desk.rule(6), SYNTAX);
        Check.due("place of rule", desk.place(), 2);
        Check.due("rule of none", desk.rule(6), SYNTAX);
        Check.due("place of none", desk.place(), 0);
    }

    // "-1 if none did"
    private static void promise8NoneDid() {
        RewritingDesk desk = Check.deskWith("2 2", "0 1");
        Check.reduces(desk, "2", LONG, 61, "");
        Check.reduces(desk, "0", OK, 1, "1");
        Check.put(desk, "0");
        Check.due("equal", desk.equal(), 1);
        Check.due("matching", desk.matching(), BAD);
        Check.due("rule -1", desk.rule(-1), BAD);
        Check.due("token", desk.token(7, 7), false);
        Check.due("pairs", desk.pairs(9), BAD);
        Check.due("place", desk.place(), -1);
    }

    // "How many STEPS the latest reduce or equal took that was not SYNTAX"
    private static void promise9NotSyntax() {
        RewritingDesk desk = Check.deskWith("0 1", "3 1", "4 4 x0 x0");
        Check.due("steps before any", desk.steps(), 0);
        Check.due("reduce of none", desk.reduce(), SYNTAX);
        Check.due("steps after SYNTAX alone", desk.steps(), 0);
        Check.reduces(desk, "7 0 7 0 0", OK, 3, "7 1 7 1 1");
        Check.due("equal of one term", desk.equal(), -SYNTAX);
        Check.due("steps after -SYNTAX", desk.steps(), 3);
        Check.put(desk, "x0");
        Check.due("reduce of two terms", desk.reduce(), SYNTAX);
        Check.due("steps after SYNTAX", desk.steps(), 3);
        Check.due("rule of it", desk.rule(5), SYNTAX);
        Check.put(desk, "0");
        Check.due("matching", desk.matching(), 0);
        Check.due("pairs", desk.pairs(0), 1);
        Check.due("steps after matching and pairs", desk.steps(), 3);
        Check.put(desk, "2");
        Check.due("equal", desk.equal(), 0);
        Check.due("steps of equal", desk.steps(), 1);
        Check.reduces(desk, "2", OK, 0, "2");
    }

    // "(at LONG: 61)"
    private static void promise9AtLong() {
        RewritingDesk desk = Check.deskWith("2 2");
        Check.reduces(desk, "2", LONG, 61, "");
        Check.reduces(desk, "3", OK, 0, "3");
        Check.put(desk, "2");
        Check.due("equal", desk.equal(), -LONG);
        Check.due("steps of equal", desk.steps(), 61);
        Check.due("pairs", desk.pairs(0), 0);
        Check.due("steps after pairs", desk.steps(), 61);
    }

    // "The SIZE of the result; 0 if there is none."
    private static void promise10NoResult() {
        RewritingDesk desk = Check.deskWith("0 " + SIZE_15, "1 1", "5 x0 #5");
        Check.due("size at first", desk.size(), 0);
        Check.reduces(desk, "#0", OK, 0, "#0");
        Check.due("the least size", desk.size(), 1);
        Check.reduces(desk, SIZE_30, OK, 0, SIZE_30);
        Check.due("the greatest size", desk.size(), 30);
        Check.reduces(desk, "0", OK, 1, SIZE_15);
        Check.due("a size greater than the draft's", desk.size(), 15);
        Check.reduces(desk, "5 " + Check.repeated("6", 28) + " 3", OK, 1, "#5");
        Check.due("a size smaller than the draft's", desk.size(), 1);
        Check.reduces(desk, "1", LONG, 61, "");
        Check.due("size without a result", desk.size(), 0);
    }

    // "Its k-th token (0 the first) [..] -1 if there is none."
    private static void promise11TheKthToken() {
        RewritingDesk desk = new RewritingDesk();
        Check.reduces(desk, "7 #-1 4 2", OK, 0, "7 #-1 4 2");
        long[] tokens = {7, NUMBER + 4294967295L, 4, 2};
        for (int k = -40; k <= 40; k++) {
            Check.due("at " + k, desk.at(k), k >= 0 && k < 4 ? tokens[k] : -1);
        }
        Check.due("at the least int", desk.at(LEAST), -1);
        Check.due("at the greatest int", desk.at(GREATEST), -1);
        Check.reduces(desk, SIZE_30, OK, 0, SIZE_30);
        Check.due("at 29 of 30", desk.at(29), 3);
        Check.due("at 30 of 30", desk.at(30), -1);
        Check.due("at 31 of 30", desk.at(31), -1);
    }

    // "the kind times 4294967296, plus the value as 32 bits without sign"
    private static void promise11KindAndValue() {
        RewritingDesk desk = new RewritingDesk();
        long[][] numbers = {{0, 0}, {1, 1}, {GREATEST, 2147483647L}, {LEAST, 2147483648L}, {-1, 4294967295L},
            {LEAST + 1, 2147483649L}, {-2, 4294967294L}};
        for (long[] number : numbers) {
            Check.reduces(desk, "#" + number[0], OK, 0, "#" + number[0]);
            Check.due("at 0 of #" + number[0], desk.at(0), NUMBER + number[1]);
        }
        for (int symbol = 0; symbol <= 3; symbol++) {
            Check.reduces(desk, "" + symbol, OK, 0, "" + symbol);
            Check.due("at 0 of " + symbol, desk.at(0), symbol);
        }
        Check.reduces(desk, "11 0 1", OK, 0, "11 0 1");
        Check.due("at 0 of 11", desk.at(0), 11);
    }

    private static void matching(Supplier<RewritingDesk> desks, String draft, int answer) {
        RewritingDesk desk = Check.put(desks.get(), draft);
        Check.due("matching of " + draft, desk.matching(), answer);
        Check.due("size after matching of " + draft, desk.size(), 0);
        Check.due("steps after matching of " + draft, desk.steps(), 0);
    }

    // "The rule that matches the draft as it is [..]: the one with the least number; NONE if there is none"
    private static void promise12AsItIs() {
        Supplier<RewritingDesk> desks = () -> Check.deskWith("0 1", "4 1 2", "4 0 3", "9 #2 #1 0", "10 #1 #1 0",
            "4 x0 x0", "7 9 #1 #2 x0 x0", "5 x0 x0");
        matching(desks, "0", 0);
        // The arguments aren't replaced, sorted or added up first.
        matching(desks, "4 0", 2);
        matching(desks, "4 1", 1);
        matching(desks, "4 2", 5);
        matching(desks, "9 #2 #1", 3);
        matching(desks, "9 #1 #2", 3);
        matching(desks, "9 #1 10 #1 #1", NONE);
        matching(desks, "10 #1 #1", 4);
        matching(desks, "7 9 #2 #1 3", 6);
        matching(desks, "7 9 #2 #2 3", NONE);
        matching(desks, "5 4 0", 7);
        // The whole draft, not a part of it.
        matching(desks, "6 0", NONE);
        matching(desks, "#1", NONE);
        matching(desks, "4 " + Check.repeated("6", 28) + " 3", 5);
        matching(desks, SIZE_30, NONE);
        matching(RewritingDesk::new, "0", NONE);
        RewritingDesk last = new RewritingDesk();
        Check.put(last, "0 1");
        Check.due("rule 7", last.rule(7), OK);
        Check.put(last, "0");
        Check.due("matching of rule 7", last.matching(), 7);
        Check.due("drop 7", last.drop(7), true);
        Check.due("matching after drop", last.matching(), NONE);
    }

    // "BAD if the draft is no such term"
    private static void promise12NoSuchTerm() {
        Supplier<RewritingDesk> desks = () -> Check.deskWith("0 1", "4 x0 x0");
        for (String draft : new String[] {"", "4", "7 0", "0 0", "x0", "w0", "4 x0", "4 w0", "0 x0",
            Check.repeated("4", 30), Check.repeated("0", 30)}) {
            matching(desks, draft, BAD);
            matching(RewritingDesk::new, draft, BAD);
        }
    }
}
