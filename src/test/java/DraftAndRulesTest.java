/** Promises 1 to 5 and 8, and what a refused call leaves as it was (promise 15). */
public final class DraftAndRulesTest {
    private DraftAndRulesTest() {
    }

    public static void main(String[] args) {
        promise1NewObject();
        promise2Token();
        promise3Wipe();
        promise4Rule();
        promise5Drop();
        promise8PlaceInRule();
        promise8PlaceInReduceAndEqual();
        promise15RefusedCallsChangeNothing();
        Check.end("DraftAndRulesTest");
    }

    private static void promise1NewObject() {
        RewritingDesk desk = new RewritingDesk();
        for (int r = 0; r < 8; r++) {
            Check.due("drop of a new desk", desk.drop(r), false);
        }
        Check.due("wipe of a new desk", desk.wipe(), 0);
        Check.due("place of a new desk", desk.place(), -1);
        Check.due("steps of a new desk", desk.steps(), 0);
        Check.due("size of a new desk", desk.size(), 0);
        Check.due("at of a new desk", desk.at(0), -1);
        Check.due("matching of a new desk", desk.matching(), RewritingDesk.BAD);
        Check.due("pairs of a new desk", desk.pairs(0), 0);
        Check.due("open of a new desk", desk.open(0), RewritingDesk.NONE);
    }

    private static void promise2Token() {
        RewritingDesk desk = new RewritingDesk();
        int[][] refused = {{-1, 0}, {4, 0}, {0, -1}, {0, 12}, {2, -1}, {2, 4}, {3, -1}, {3, 4},
            {Integer.MIN_VALUE, 0}, {Integer.MAX_VALUE, 0}, {0, Integer.MIN_VALUE}, {2, 1 << 30}};
        for (int[] token : refused) {
            Check.due("token " + token[0] + " " + token[1], desk.token(token[0], token[1]), false);
        }
        Check.due("wipe after refused tokens", desk.wipe(), 0);
        int[][] taken = {{0, 0}, {0, 11}, {1, Integer.MIN_VALUE}, {1, Integer.MAX_VALUE}, {1, -1},
            {2, 0}, {2, 3}, {3, 0}, {3, 3}};
        for (int[] token : taken) {
            Check.due("token " + token[0] + " " + token[1], desk.token(token[0], token[1]), true);
        }
        Check.due("wipe after tokens", desk.wipe(), taken.length);
        Check.put(desk, Check.repeated("4", 29) + " 0");
        Check.due("token 31", desk.token(0, 0), false);
        Check.due("reduce of 30 tokens", desk.reduce(), RewritingDesk.OK);
        Check.due("size of 30 tokens", desk.size(), 30);
        Check.due("wipe of 30 tokens", desk.wipe(), 30);
        Check.due("token after wipe", desk.token(0, 0), true);
    }

    private static void promise3Wipe() {
        RewritingDesk desk = Check.put(new RewritingDesk(), "7 0 1");
        Check.due("wipe", desk.wipe(), 3);
        Check.due("wipe again", desk.wipe(), 0);
        Check.put(desk, "2");
        Check.due("reduce after wipe", desk.reduce(), RewritingDesk.OK);
        Check.due("result after wipe", Check.result(desk), "2");
    }

    private static void promise4Rule() {
        RewritingDesk desk = Check.put(new RewritingDesk(), "0 1");
        Check.due("rule -1", desk.rule(-1), RewritingDesk.BAD);
        Check.due("rule 8", desk.rule(8), RewritingDesk.BAD);
        Check.due("rule 7 of the draft that stayed", desk.rule(7), RewritingDesk.OK);
        Check.due("wipe after rule", desk.wipe(), 0);
        Check.put(desk, "0 2 3");
        Check.due("rule of three terms", desk.rule(7), RewritingDesk.SYNTAX);
        Check.due("wipe after SYNTAX", desk.wipe(), 0);
        Check.reduces(desk, "0", RewritingDesk.OK, 1, "1");
        desk.wipe();
        Check.put(desk, "0 2");
        Check.due("rule 7 anew", desk.rule(7), RewritingDesk.OK);
        Check.reduces(desk, "0", RewritingDesk.OK, 1, "2");
        desk.wipe();
        Check.put(desk, "0 3");
        Check.due("rule 0 before rule 7", desk.rule(0), RewritingDesk.OK);
        Check.reduces(desk, "0", RewritingDesk.OK, 1, "3");
        Check.deskWith("9 9 9 9 x0 x1 x2 x3 #1 9 9 9 9 9 x0 x1 x2 x3 #1 #2", "7 x0 w0 8 w0 x0");
    }

    private static void promise5Drop() {
        RewritingDesk desk = Check.deskWith("0 1", "0 2");
        Check.due("drop -1", desk.drop(-1), false);
        Check.due("drop 8", desk.drop(8), false);
        Check.due("drop 2", desk.drop(2), false);
        Check.reduces(desk, "0", RewritingDesk.OK, 1, "1");
        Check.due("drop 0", desk.drop(0), true);
        Check.due("drop 0 again", desk.drop(0), false);
        Check.reduces(desk, "0", RewritingDesk.OK, 1, "2");
        Check.due("drop 1", desk.drop(1), true);
        Check.reduces(desk, "0", RewritingDesk.OK, 0, "0");
    }

    private static void refusesRule(String draft, int place) {
        RewritingDesk desk = Check.put(new RewritingDesk(), draft);
        Check.due("rule of " + draft, desk.rule(0), RewritingDesk.SYNTAX);
        Check.due("place of " + draft, desk.place(), place);
        Check.due("drop after " + draft, desk.drop(0), false);
        Check.due("wipe after " + draft, desk.wipe(), 0);
    }

    private static void promise8PlaceInRule() {
        refusesRule("", 0);
        refusesRule("0", 1);
        refusesRule("7 0", 2);
        refusesRule("7 0 1", 3);
        refusesRule("4 x0 7 x0", 4);
        refusesRule("0 1 2", 2);
        refusesRule("0 1 x0", 2);
        refusesRule("x0 0", 0);
        refusesRule("w0 0", 0);
        refusesRule("#7 0", 0);
        refusesRule("#7", 0);
        refusesRule("x0 9 9 9 9 9", 0);
        refusesRule("4 x0 x1", 2);
        refusesRule("4 x0 w0", 2);
        refusesRule("4 w0 x0", 2);
        refusesRule("4 x3 7 x3 x2 0 0", 4);
        refusesRule("0 7 x0 x1", 2);
        refusesRule("9 9 9 9 9 0 0 0 0 0 0 0", 4);
        refusesRule("9 9 x0 9 x0 x0 7 9 x0 x0 9 x0", 10);
        refusesRule("9 9 9 9", 4);
        RewritingDesk desk = Check.put(new RewritingDesk(), "9 9 9 9 0 0 0 0 0 9 9 9 9 9 0 0 0 0 0 0");
        Check.due("rule with five symbols 9 in RIGHT alone", desk.rule(0), RewritingDesk.OK);
        Check.due("place without SYNTAX", desk.place(), -1);
    }

    private static void refusesTerm(String draft, int place) {
        RewritingDesk desk = Check.put(new RewritingDesk(), draft);
        Check.due("reduce of " + draft, desk.reduce(), RewritingDesk.SYNTAX);
        Check.due("place of " + draft, desk.place(), place);
    }

    private static void refusesTerms(String draft, int place) {
        RewritingDesk desk = Check.put(new RewritingDesk(), draft);
        Check.due("equal of " + draft, desk.equal(), -RewritingDesk.SYNTAX);
        Check.due("place of " + draft, desk.place(), place);
    }

    private static void promise8PlaceInReduceAndEqual() {
        refusesTerm("", 0);
        refusesTerm("7 0", 2);
        refusesTerm("x0", 0);
        refusesTerm("7 x0 w1", 1);
        refusesTerm("7 0 w1", 2);
        refusesTerm("0 1", 1);
        refusesTerm("7 #1 #2 x0", 3);
        refusesTerm(Check.repeated("4", 30), 30);
        refusesTerms("", 0);
        refusesTerms("0", 1);
        refusesTerms("0 7 1", 3);
        refusesTerms("0 1 2", 2);
        refusesTerms("#0 x0", 1);
        refusesTerms("w0 0", 0);
        refusesTerms("4 0 4 x1 2", 3);
        RewritingDesk desk = Check.put(new RewritingDesk(), "7 0");
        Check.due("reduce of 7 0", desk.reduce(), RewritingDesk.SYNTAX);
        Check.put(desk, "0");
        Check.due("reduce of 7 0 0", desk.reduce(), RewritingDesk.OK);
        Check.due("place of the SYNTAX before", desk.place(), 2);
        Check.due("matching of 7 0 0", desk.matching(), RewritingDesk.NONE);
        desk.wipe();
        Check.due("matching of no term", desk.matching(), RewritingDesk.BAD);
        Check.due("place after matching's BAD", desk.place(), 2);
        Check.due("equal of no term", desk.equal(), -RewritingDesk.SYNTAX);
        Check.due("place of equal", desk.place(), 0);
    }

    private static void promise15RefusedCallsChangeNothing() {
        RewritingDesk desk = Check.deskWith("0 1");
        Check.reduces(desk, "4 0", RewritingDesk.OK, 1, "4 1");
        Check.due("token refused", desk.token(9, 9), false);
        Check.due("rule refused", desk.rule(99), RewritingDesk.BAD);
        Check.due("drop refused", desk.drop(99), false);
        Check.due("at refused", desk.at(99), -1);
        Check.due("pairs refused", desk.pairs(99), RewritingDesk.BAD);
        Check.due("open refused", desk.open(99), RewritingDesk.BAD);
        Check.due("open without a pair", desk.open(0), RewritingDesk.NONE);
        Check.due("matching without a rule", desk.matching(), RewritingDesk.NONE);
        Check.due("result after refusals", Check.result(desk), "4 1");
        Check.due("steps after refusals", desk.steps(), 1);
        Check.due("place after refusals", desk.place(), -1);
        Check.due("wipe after refusals", desk.wipe(), 2);
        Check.due("result after wipe", Check.result(desk), "4 1");
        Check.due("drop", desk.drop(0), true);
        Check.due("result after drop", Check.result(desk), "4 1");
    }
}
