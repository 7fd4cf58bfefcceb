/** Promises 13 to 15: the critical pairs. */
public final class PairsTest {
    private PairsTest() {
    }

    public static void main(String[] args) {
        promise13WrongInputs();
        promise13Joined();
        promise13Places();
        promise13PlainRules();
        promise13Unifying();
        promise13Unknown();
        promise13OrderOfVariables();
        promise13AfterChanges();
        promise14Open();
        promise15BadBeforeNone();
        Check.end("PairsTest");
    }

    private static void pairs(RewritingDesk desk, String about, int joined, int open, int unknown) {
        Check.due("pairs(0): " + about, desk.pairs(0), joined + open + unknown);
        Check.due("pairs(1): " + about, desk.pairs(1), joined);
        Check.due("pairs(2): " + about, desk.pairs(2), open);
        Check.due("pairs(3): " + about, desk.pairs(3), unknown);
    }

    private static void open(RewritingDesk desk, String about, int i, int j, int p) {
        Check.due("open(0): " + about, desk.open(0), i);
        Check.due("open(1): " + about, desk.open(1), j);
        Check.due("open(2): " + about, desk.open(2), p);
    }

    private static void promise13WrongInputs() {
        RewritingDesk desk = Check.deskWith("0 1", "0 2");
        int[] wrong = {-1, 4, Integer.MIN_VALUE, Integer.MAX_VALUE};
        for (int what : wrong) {
            Check.due("pairs(" + what + ")", desk.pairs(what), RewritingDesk.BAD);
        }
        pairs(desk, "0 -> 1, 0 -> 2", 0, 2, 0);
    }

    private static void promise13Joined() {
        RewritingDesk associative = Check.deskWith("7 7 x0 x1 x2 7 x0 7 x1 x2");
        pairs(associative, "associativity", 1, 0, 0);
        open(associative, "associativity", RewritingDesk.NONE, RewritingDesk.NONE, RewritingDesk.NONE);
        // Both sides the same at once, and without any step.
        pairs(Check.deskWith("4 0 1", "4 x0 1"), "the same RIGHT", 2, 0, 0);
        // Each side takes 40 steps, and each begins with none.
        pairs(Check.deskWith("0 4 4 4 4 4 4 4 4 4 4 4 4 4 4 4 4 4 4 4 4 4 4 4 4 4 4 4 2",
            "0 4 4 4 4 4 4 4 4 4 4 4 4 4 4 4 4 4 4 4 4 4 4 4 4 4 4 4 2", "4 x0 5 x0", "5 5 x0 x0"),
            "long sides", 3, 0, 0);
    }

    private static void promise13Places() {
        // Not at 0 for a rule with itself, not where a variable stands; at 0 both ways round.
        pairs(Check.deskWith("7 x0 x1 x0"), "7 x0 x1 alone", 0, 0, 0);
        pairs(Check.deskWith("4 4 x0 x0"), "4 4 x0 alone", 1, 0, 0);
        RewritingDesk idle = Check.deskWith("4 5 x0 4 x0", "5 6 x0 x0");
        pairs(idle, "4 5 x0 and 5 6 x0", 0, 1, 0);
        open(idle, "4 5 x0 and 5 6 x0", 0, 1, 1);
        RewritingDesk deep = Check.deskWith("0 1", "8 7 4 x0 4 0 4 0 0");
        pairs(deep, "three places", 0, 2, 0);
        open(deep, "three places", 1, 0, 5);
    }

    private static void promise13PlainRules() {
        pairs(Check.deskWith("0 #1", "0 2"), "a number in RIGHT", 0, 0, 0);
        pairs(Check.deskWith("4 #1 0", "4 x0 2"), "a number in LEFT", 0, 0, 0);
        pairs(Check.deskWith("4 w0 0", "4 x0 2"), "a whole", 0, 0, 0);
        pairs(Check.deskWith("0 9 1 1", "0 2"), "symbol 9 in RIGHT", 0, 0, 0);
        pairs(Check.deskWith("9 x0 x1 0", "9 x0 x0 1"), "symbol 9 in LEFT", 0, 0, 0);
        pairs(Check.deskWith("10 x0 x1 0", "10 x0 x0 1"), "symbol 10", 0, 0, 0);
        pairs(Check.deskWith("0 11 1 1", "0 2"), "symbol 11", 0, 0, 0);
        pairs(Check.deskWith("0 8 1 1", "0 2"), "symbol 8", 0, 2, 0);
        // Rules that aren't plain take part in the normal forms.
        pairs(Check.deskWith("0 1", "0 2", "1 #3", "2 10 #1 #2"), "0 -> 1 -> 3, 0 -> 2 -> 3", 2, 0, 0);
    }

    private static void promise13Unifying() {
        pairs(Check.deskWith("7 x0 4 x0 0", "7 x0 x0 1"), "a variable inside its own term", 0, 0, 0);
        pairs(Check.deskWith("8 7 x0 x1 7 x0 x1 0", "8 7 x0 4 x0 7 4 x1 x1 1"),
            "two variables, each inside the other's term", 0, 0, 0);
        pairs(Check.deskWith("6 8 x2 8 4 x2 8 x1 x1 0", "6 8 4 x0 8 x1 8 x0 5 x1 1"),
            "a variable inside its own term by way of two others", 0, 0, 0);
        pairs(Check.deskWith("7 x0 7 x1 x0 0", "7 4 x0 7 x0 x1 1"), "two nested rules", 0, 6, 0);
        // The same variable in both rules is not the same variable.
        pairs(Check.deskWith("7 x0 4 x1 0", "7 4 x0 x0 1"), "7 x0 4 x1 and 7 4 x0 x0", 0, 2, 0);
        pairs(Check.deskWith("7 x0 x0 0", "7 4 0 4 1 1"), "two symbols for one variable", 0, 0, 0);
        pairs(Check.deskWith("8 7 x0 x1 7 x1 x0 0", "8 x0 x0 1"), "8 7 x0 x1 7 x1 x0 and 8 x0 x0", 0, 2, 0);
    }

    private static void promise13Unknown() {
        RewritingDesk endless = Check.deskWith("0 1", "0 2", "2 2");
        pairs(endless, "one side without end", 0, 0, 2);
        Check.due("open(0): one side without end", endless.open(0), RewritingDesk.NONE);
        String twentySix = Check.repeated("5", 26);
        pairs(Check.deskWith("6 6 4 x0 1", "4 " + twentySix + " 0 1"), "a PEAK of 30", 0, 1, 0);
        pairs(Check.deskWith("6 6 6 4 x0 1", "4 " + twentySix + " 0 1"), "a PEAK of 31", 0, 0, 1);
        String fourteen = Check.repeated("5", 14);
        pairs(Check.deskWith("6 4 x0 7 x0 x0", "4 " + fourteen + " 0 1"), "a first side of 31", 0, 0, 1);
        pairs(Check.deskWith("6 4 x0 7 x0 x0", "4 5 " + Check.repeated("5", 12) + " 0 1"),
            "a first side of 29", 0, 1, 0);
        pairs(Check.deskWith("6 6 4 x0 1", "4 x0 7 x0 " + Check.repeated("5", 25) + " 0"),
            "an other side of 30", 0, 1, 0);
        pairs(Check.deskWith("6 6 6 4 x0 1", "4 x0 7 x0 " + Check.repeated("5", 25) + " 0"),
            "an other side of 31", 0, 0, 1);
        // What is above 30 at first stays UNKNOWN, though its normal form is small.
        pairs(Check.deskWith("6 4 x0 7 x0 x0", "4 " + fourteen + " 0 1", "5 x0 #0"),
            "a first side of 31 that shrinks", 0, 0, 1);
        pairs(Check.deskWith("6 6 6 4 x0 1", "4 x0 7 x0 " + Check.repeated("5", 25) + " 0", "5 x0 #0"),
            "an other side of 31 that shrinks", 0, 0, 1);
        // Four times doubled, the term of x0 has 31 tokens, though both rules are small.
        pairs(Check.deskWith("4 8 x0 8 7 x1 x1 8 x1 7 x2 x2 0", "4 8 7 x0 x0 8 x0 8 7 x1 x1 x1 1"),
            "doubled variables", 0, 0, 2);
    }

    private static void promise13OrderOfVariables() {
        String[] rules = {"4 7 x1 x0 8 x1 x0", "7 x1 x0 8 x0 x1", "8 x0 x1 11 x0 x1",
            "4 11 x0 x1 9 x0 x1", "9 x0 x1 11 x0 x1"};
        pairs(Check.deskWith(rules), "the variable first in the PEAK comes first", 1, 0, 0);
        rules[0] = "4 7 x0 0 8 3 x0";
        rules[1] = "7 x0 0 8 x0 3";
        pairs(Check.deskWith(rules), "variables come behind symbols", 1, 0, 0);
        RewritingDesk whole = Check.deskWith("4 5 x0 4 x0", "5 x0 x0", "4 w0 0");
        pairs(whole, "a variable is no number", 1, 0, 0);
    }

    private static void promise13AfterChanges() {
        RewritingDesk desk = Check.deskWith("0 1", "0 2");
        pairs(desk, "at first", 0, 2, 0);
        Check.put(desk, "1 2");
        Check.due("rule 2", desk.rule(2), RewritingDesk.OK);
        pairs(desk, "with 1 -> 2", 2, 0, 0);
        Check.due("drop 2", desk.drop(2), true);
        pairs(desk, "without 1 -> 2", 0, 2, 0);
        Check.due("drop 0", desk.drop(0), true);
        pairs(desk, "without 0 -> 1", 0, 0, 0);
        Check.put(desk, "0 3");
        Check.due("rule 7", desk.rule(7), RewritingDesk.OK);
        pairs(desk, "with 0 -> 3", 0, 2, 0);
        open(desk, "with 0 -> 3", 1, 7, 0);
        Check.due("rule of no draft", desk.rule(7), RewritingDesk.SYNTAX);
        pairs(desk, "after SYNTAX", 0, 2, 0);
    }

    private static void promise14Open() {
        RewritingDesk desk = Check.deskWith("4 0 1", "0 2");
        pairs(desk, "4 0 -> 1, 0 -> 2", 0, 1, 0);
        open(desk, "4 0 -> 1, 0 -> 2", 0, 1, 1);
        RewritingDesk later = Check.deskWith("4 4 x0 x0", "0 3", "5 5 0 1");
        open(later, "5 5 0 -> 1", 2, 1, 2);
        // Counted by i, then j, then p.
        open(Check.deskWith("7 1 0 2", "0 3", "1 3"), "7 1 0 -> 2", 0, 1, 2);
        open(Check.deskWith("7 0 0 2", "0 3"), "7 0 0 -> 2", 0, 1, 1);
    }

    private static void promise15BadBeforeNone() {
        RewritingDesk none = new RewritingDesk();
        RewritingDesk some = Check.deskWith("0 1", "0 2");
        int[] wrong = {-1, 3, Integer.MIN_VALUE, Integer.MAX_VALUE};
        for (int what : wrong) {
            Check.due("open(" + what + ") without a pair", none.open(what), RewritingDesk.BAD);
            Check.due("open(" + what + ")", some.open(what), RewritingDesk.BAD);
        }
        open(none, "no rules", RewritingDesk.NONE, RewritingDesk.NONE, RewritingDesk.NONE);
        open(some, "0 -> 1, 0 -> 2", 0, 1, 0);
    }
}
