/**
 * Boundary cases of CRITICAL PAIRS and of promises 13 and 14, a method for each sentence that names
 * one, with the sentence above it.
 */
public final class PairBoundariesTest {
    private static final int OK = RewritingDesk.OK;
    private static final int BAD = RewritingDesk.BAD;
    private static final int NONE = RewritingDesk.NONE;

    private static final String SIZE_14 = Check.repeated("6", 13) + " 3";
    private static final String SIZE_15 = "6 " + SIZE_14;

    private PairBoundariesTest() {
    }

    public static void main(String[] args) {
        plainRules();
        absentRulesHaveNone();
        theyMayBeTheSame();
        placesOfLeft();
        notZeroIfTheSame();
        variablesOfJAreDifferent();
        termsCanBePut();
        noTermHoldsItself();
        everyVariableInTheOneBefore();
        mostGeneral();
        rightAtP();
        noRuleApplies();
        variablesBehindAllOthers();
        firstInThePeak();
        firstInThePeakOutsideOfP();
        peakAbove30();
        firstSideAbove30();
        otherSideAbove30();
        endsWithLong();
        endsWithLarge();
        eachBeginsWithNoSteps();
        joinedElseOpen();
        rulesOf30Tokens();
        countedByIThenJThenP();
        promise13HowMany();
        promise13AsManyAsCanBe();
        promise13BadForAnyOther();
        promise13OfTheRulesAsTheyAre();
        promise14FirstOpen();
        promise14None();
        promise14BadForAnyOther();
        Check.end("PairBoundariesTest");
    }

    private static void pairs(String about, int joined, int open, int unknown, String... rules) {
        counts(about, Check.deskWith(rules), joined, open, unknown);
    }

    private static void counts(String about, RewritingDesk desk, int joined, int open, int unknown) {
        Check.due("pairs(0): " + about, desk.pairs(0), joined + open + unknown);
        Check.due("pairs(1): " + about, desk.pairs(1), joined);
        Check.due("pairs(2): " + about, desk.pairs(2), open);
        Check.due("pairs(3): " + about, desk.pairs(3), unknown);
    }

    private static void opens(String about, RewritingDesk desk, int i, int j, int p) {
        Check.due("open(0): " + about, desk.open(0), i);
        Check.due("open(1): " + about, desk.open(1), j);
        Check.due("open(2): " + about, desk.open(2), p);
    }

    // "A rule is PLAIN if it has no numbers, wholes and symbols 9, 10, 11."
    private static void plainRules() {
        String[] plain = {"0", "3", "4 0", "6 0", "7 0 0", "8 0 0", "x0", "x3", "8 x0 x3"};
        String[] other = {"#0", "#-1", "#8", "w0", "w3", "9 0 0", "10 0 0", "11 0 0", "4 #1", "7 0 w1", "8 11 0 0 0"};
        for (String part : plain) {
            pairs("j has " + part, 0, 1, 0, "4 5 8 x0 x3 1", "5 8 x0 " + part + " 2");
            pairs("i has " + part, 0, 1, 0, "4 5 8 x0 " + part + " 1", "5 8 x0 x3 2");
            pairs("RIGHT of j has " + part, 0, 1, 0, "4 5 7 x0 x3 1", "5 7 x0 x3 8 2 " + part);
            pairs("RIGHT of i has " + part, 0, 1, 0, "4 5 7 x0 x3 8 1 " + part, "5 7 x0 x3 2");
        }
        for (String part : other) {
            pairs("j has " + part, 0, 0, 0, "4 5 8 x0 x3 1", "5 8 x0 " + part + " 2");
            pairs("i has " + part, 0, 0, 0, "4 5 8 x0 " + part + " 1", "5 8 x0 x3 2");
            pairs("RIGHT of j has " + part, 0, 0, 0, "4 5 7 x0 7 x3 7 w0 7 w1 w3 1",
                "5 7 x0 7 x3 7 w0 7 w1 w3 8 2 " + part);
        }
        for (String part : new String[] {"#0", "9 0 0", "10 0 0", "11 0 0"}) {
            pairs("only RIGHT of j has " + part, 0, 0, 0, "4 5 x0 1", "5 x0 8 2 " + part);
            pairs("only RIGHT of i has " + part, 0, 0, 0, "4 5 x0 8 1 " + part, "5 x0 2");
        }
    }

    // "RULES 0..7, each absent or a pair": an absent rule, before and after it was there.
    private static void absentRulesHaveNone() {
        RewritingDesk desk = Check.deskWith("4 0 1", "0 2");
        counts("both there", desk, 0, 1, 0);
        Check.due("drop 1", desk.drop(1), true);
        counts("j absent", desk, 0, 0, 0);
        Check.put(desk, "0 2");
        Check.due("rule 7", desk.rule(7), OK);
        counts("j is 7", desk, 0, 1, 0);
        opens("j is 7", desk, 0, 7, 1);
        Check.due("drop 0", desk.drop(0), true);
        counts("i absent", desk, 0, 0, 0);
        Check.put(desk, "4 0 1");
        Check.due("rule 6", desk.rule(6), OK);
        opens("i is 6", desk, 6, 7, 1);
    }

    // "For PLAIN rules i and j (they may be the same)"
    private static void theyMayBeTheSame() {
        pairs("4 4 x0 with itself", 1, 0, 0, "4 4 x0 x0");
        RewritingDesk open = Check.deskWith("4 4 x0 5 x0");
        counts("4 4 x0 with itself, open", open, 0, 1, 0);
        opens("4 4 x0 with itself", open, 0, 0, 1);
    }

    // "each place p of LEFT of i (counted in tokens, 0 the whole) at which no variable stands"
    private static void placesOfLeft() {
        RewritingDesk whole = Check.deskWith("7 0 1 2", "7 x0 x1 3");
        counts("the whole", whole, 0, 2, 0);
        opens("the whole", whole, 0, 1, 0);
        RewritingDesk last = Check.deskWith(Check.repeated("6", 28) + " 3 0", "3 1");
        counts("the last of 29 tokens", last, 0, 1, 0);
        opens("the last of 29 tokens", last, 0, 1, 28);
        pairs("a variable alone", 0, 0, 0, "4 x0 0", "1 2");
        pairs("a variable in each argument", 0, 0, 0, "7 x0 x1 0", "5 x0 1");
        RewritingDesk behind = Check.deskWith("7 4 x0 4 5 0 1", "5 x0 2");
        counts("behind an argument", behind, 0, 1, 0);
        opens("behind an argument", behind, 0, 1, 4);
        // In LEFT alone, not in RIGHT.
        pairs("RIGHT has no places", 0, 0, 0, "4 x0 5 x0", "5 x0 1");
        pairs("every place of 8 0 8 0 8 0 0", 0, 4, 0, "8 0 8 0 8 0 0 3", "0 1");
    }

    // "but not 0 if i is j"
    private static void notZeroIfTheSame() {
        pairs("7 x0 0 alone", 0, 0, 0, "7 x0 0 1");
        pairs("0 alone", 0, 0, 0, "0 1");
        pairs("the same rule twice", 2, 0, 0, "7 x0 0 1", "7 x0 0 1");
        pairs("the same LEFT twice", 0, 2, 0, "7 x0 0 1", "7 x0 0 2");
        pairs("4 4 x0 twice", 6, 0, 0, "4 4 x0 x0", "4 4 x0 x0");
    }

    // "with variables of j taken as different from those of i"
    private static void variablesOfJAreDifferent() {
        pairs("7 x0 0 in 7 1 x0", 0, 1, 0, "4 7 x0 0 2", "7 1 x0 3");
        pairs("7 x0 5 x1 and 7 5 x1 x0", 0, 1, 0, "4 7 x0 5 x1 2", "7 5 x1 x0 3");
        pairs("5 x0 and 5 6 x0", 0, 1, 0, "4 5 x0 2", "5 6 x0 3");
        pairs("all eight variables", 0, 1, 0, "4 8 7 x0 x1 7 x2 x3 2", "8 7 x0 x1 7 x2 x3 3");
    }

    // "if [..] terms can be put for the variables so that the part of i's LEFT at p becomes j's LEFT"
    private static void termsCanBePut() {
        pairs("other symbols", 0, 0, 0, "4 5 0 2", "5 1 3");
        pairs("one symbol in two places", 0, 1, 0, "4 7 x0 x0 2", "7 0 x1 3");
        pairs("two symbols for one variable of i", 0, 0, 0, "4 7 x0 x0 2", "7 0 1 3");
        pairs("two symbols for one variable of j", 0, 0, 0, "4 7 0 1 2", "7 x0 x0 3");
        pairs("two terms that become one", 0, 1, 0, "4 7 5 x0 5 0 2", "7 x1 x1 3");
        pairs("by way of both rules", 0, 0, 0, "4 8 x0 7 x0 0 2", "8 x1 7 1 x1 3");
        pairs("by way of both rules, the same", 0, 1, 0, "4 8 x0 7 x0 1 2", "8 x1 7 1 x1 3");
    }

    // The same sentence: no term has itself as a part.
    private static void noTermHoldsItself() {
        pairs("x0 and 5 x0", 0, 0, 0, "4 7 x0 5 x0 2", "7 x0 x0 3");
        pairs("x0 and 5 x1", 0, 1, 0, "4 7 x0 5 x1 2", "7 x0 x0 3");
        pairs("x0 and x0", 0, 1, 0, "4 7 x0 x0 2", "7 x0 x0 3");
        pairs("two variables in a ring", 0, 0, 0, "4 8 7 x0 x1 7 x0 x1 2", "8 7 x0 5 x0 7 5 x1 x1 3");
        pairs("three variables in a ring", 0, 0, 0, "6 8 x2 8 5 x2 8 x1 x1 2", "8 5 x0 8 x1 8 x0 5 x1 3");
    }

    // The same sentence, with all eight variables, and a PEAK of 30 tokens.
    private static void everyVariableInTheOneBefore() {
        // x0 of i is x0 and x1 of j, that is 4 x1 of i, and x1 of i is x2 of j, and so on.
        String left = "7 x0 8 x0 8 4 x1 8 x1 8 4 x2 8 x2 8 4 x3 x3";
        String other = "7 x0 8 x1 8 x1 8 x2 8 x2 8 x3 8 x3 ";
        pairs("all the way to 0", 2, 0, 0, left + " x0", other + "0 4 4 4 0");
        pairs("all the way to 1", 0, 2, 0, left + " x0", other + "1 4 4 4 0");
        pairs("all the way to 1, from j", 2, 0, 0, left + " 4 4 4 1", other + "1 x0");
        pairs("back to the first of j", 0, 0, 0, left + " x0", other + "4 x0 0");
        pairs("back to the second of j", 0, 0, 0, left + " x0", other + "4 x1 0");
        pairs("back to the last of j", 0, 0, 0, left + " x0", other + "4 x3 0");
        pairs("the last ones alone in a ring", 0, 0, 0, "5 7 4 x3 x3 x3", "7 x3 4 x3 0");
    }

    // "with the most general such terms the PEAK is i's LEFT"
    private static void mostGeneral() {
        // 0 and 1 join only if x0 and x1 were the same, or symbol 3.
        pairs("two variables stay two", 0, 1, 0, "4 7 x0 x1 5 x0", "7 x0 x1 8 x0 x1", "4 8 x0 x0 5 x0");
        pairs("a variable is no symbol", 0, 1, 0, "4 7 x0 x1 5 x0", "7 x0 x1 8 x0 x1", "4 8 3 x0 5 3");
        pairs("two variables become one", 1, 0, 0, "4 7 x0 x1 5 x0", "7 x0 x0 8 x0 x0", "4 8 x0 x0 5 x0");
    }

    // "the pair is i's RIGHT, and the PEAK with j's RIGHT at p"
    private static void rightAtP() {
        String inner = "5 x0 6 x0";
        pairs("at 1", 1, 0, 0, "4 5 x0 6 6 x0", inner, "4 6 x0 6 6 x0");
        pairs("at 2, with tokens before and behind", 1, 0, 0, "7 0 5 x1 8 x1 0", inner, "7 0 6 x0 8 x0 0");
        pairs("at 1, with an argument behind", 1, 0, 0, "7 5 x1 x2 8 x2 x1", inner, "7 6 x0 x1 8 x1 x0");
        pairs("the term at p is larger than what comes", 1, 0, 0, "8 7 x0 x1 x2 5 x2", "7 4 x0 4 x1 1", "8 1 x0 5 x0");
        pairs("terms are put in RIGHT too", 1, 0, 0, "4 5 x0 x0", "5 7 x0 x1 8 x1 x0", "4 8 x0 x1 7 x1 x0");
    }

    // "taken as a symbol of its own that stands alone, to which no rule applies"
    private static void noRuleApplies() {
        pairs("no whole stands for it", 0, 1, 0, "4 5 x0 6 x0", "5 x0 x0", "6 w0 0", "4 w0 0");
        pairs("a variable does", 1, 0, 0, "4 5 x0 6 x0", "5 x0 x0", "6 x0 10 0 x0", "4 x0 10 0 x0");
        pairs("it has no sum", 0, 1, 0, "4 5 x0 8 x0 x0", "5 x0 x0", "8 x0 x0 10 x0 x0", "4 x0 11 x0 x0");
        pairs("no symbol's rule applies to it", 0, 1, 0, "4 5 x0 x0", "5 x0 3", "0 #1", "1 #1", "2 #1", "3 #1",
            "4 #1 #1");
    }

    // "and which comes behind all others"
    private static void variablesBehindAllOthers() {
        for (String other : new String[] {"0", "3", "4 0", "8 3 3", "9 3 3", "11 3 3", "#0", "#2147483647"}) {
            pairs("a variable and " + other, 1, 0, 0, "5 6 x0 7 x0 0", "6 x0 8 x0 0",
                "7 x0 0 9 x0 " + other, "5 8 x0 0 10 " + other + " x0", "9 x0 x1 10 x0 x1");
            pairs(other + " and a variable", 1, 0, 0, "5 6 x0 7 x0 0", "6 x0 8 x0 0",
                "7 x0 0 9 " + other + " x0", "5 8 x0 0 10 " + other + " x0", "9 x0 x1 10 x0 x1");
        }
    }

    // "(of two that one comes first which stands first in the PEAK)"
    private static void firstInThePeak() {
        String[] names = {"x0", "x1", "x2", "x3"};
        for (String one : names) {
            for (String other : names) {
                if (one.equals(other)) {
                    continue;
                }
                // The side of i has them in a given order, that of j in the one that 9 brings about.
                String peak = "5 7 " + one + " " + other;
                String turn = "7 " + other + " " + one + " 8 " + one + " " + other;
                pairs(one + " before " + other, 1, 0, 0, peak + " 8 " + one + " " + other, turn,
                    "8 x0 x1 10 x0 x1", "5 10 x0 x1 9 x0 x1", "9 x0 x1 10 x0 x1");
                pairs(other + " behind " + one, 0, 1, 0, peak + " 8 " + other + " " + one, turn,
                    "8 x0 x1 10 x0 x1", "5 10 x0 x1 9 x0 x1", "9 x0 x1 10 x0 x1");
            }
        }
    }

    // The same sentence, for variables of i that stand outside of p, with another pair before.
    private static void firstInThePeakOutsideOfP() {
        String[] names = {"x0", "x1", "x2", "x3"};
        for (String one : names) {
            for (String other : names) {
                if (one.equals(other)) {
                    continue;
                }
                String before = "7 " + other + " 6 0 " + other;
                String peak = "8 " + one + " 8 " + other + " 4 0 ";
                String[] rules = {before, "6 0 1", peak + "5 " + one, "4 0 2", "8 x0 8 x1 2 5 x1"};
                pairs(one + " and " + other + " are two", 0, 2, 0, rules);
                rules[2] = peak + "7 " + one + " " + other;
                rules[4] = "8 x0 8 x1 2 10 0 9 x1 x0";
                pairs(one + " before " + other, 1, 1, 0, rules[0], rules[1], rules[2], rules[3], rules[4],
                    "7 x0 x1 10 0 10 x0 x1", "9 x0 x1 10 x0 x1");
                pairs(other + " behind " + one, 0, 2, 0, rules[0], rules[1], rules[2], rules[3], rules[4],
                    "7 x0 x1 10 0 10 x1 x0", "9 x0 x1 10 x0 x1");
            }
        }
    }

    // "UNKNOWN if the SIZE of the PEAK [..] is above 30"
    private static void peakAbove30() {
        String large = "4 " + Check.repeated("5", 26) + " 0 1";
        pairs("a PEAK of 29", 0, 1, 0, "6 4 x0 1", large);
        pairs("a PEAK of 30", 0, 1, 0, "6 6 4 x0 1", large);
        pairs("a PEAK of 31", 0, 0, 1, "6 6 6 4 x0 1", large);
        pairs("a PEAK of 32", 0, 0, 1, "6 6 6 6 4 x0 1", large);
        // Though both sides are the same, and small.
        pairs("a PEAK of 30, joined", 1, 0, 0, "6 6 4 x0 1", large, "6 x0 10 0 x0", "10 0 x0 #1", "1 #1");
        pairs("a PEAK of 31, the sides the same", 0, 0, 1, "6 6 6 4 x0 1", large, "6 x0 10 0 x0", "10 0 x0 #1", "1 #1");
        // Twice what stands for the variable: 4 + 2 * 13, and one more.
        String put13 = "4 " + Check.repeated("5", 12) + " 0 1";
        pairs("a PEAK of 30 by a variable twice", 0, 1, 0, "6 8 4 x0 5 x0 1", put13);
        pairs("a PEAK of 31 by a variable twice", 0, 0, 1, "6 6 8 4 x0 5 x0 1", put13);
        // Each of four variables doubles the next: far more tokens than two rules have.
        pairs("a PEAK that no draft could hold", 0, 0, 2, "4 8 x0 8 7 x1 x1 8 x1 7 x2 x2 0",
            "4 8 7 x0 x0 8 x0 8 7 x1 x1 x1 1");
    }

    // "or of one of the two": the first
    private static void firstSideAbove30() {
        String put14 = "5 " + SIZE_14 + " 1";
        pairs("a first side of 30", 0, 1, 0, "4 5 x0 6 7 x0 x0", put14);
        pairs("a first side of 31", 0, 0, 1, "4 5 x0 6 6 7 x0 x0", put14);
        pairs("a first side of 31, of one symbol", 0, 0, 1, "4 5 x0 7 x0 x0", "5 " + SIZE_15 + " 1");
        pairs("a first side of 31 that would shrink", 0, 0, 1, "4 5 x0 7 x0 x0", "5 " + SIZE_15 + " 1", "6 x0 #0");
        pairs("a first side of 29 that shrinks", 0, 1, 0, "4 5 x0 7 x0 x0", "5 " + SIZE_14 + " 1", "6 x0 #0");
    }

    // "or of one of the two": the other
    private static void otherSideAbove30() {
        String put28 = "5 x0 " + Check.repeated("6", 27) + " 3";
        pairs("an other side of 30", 0, 1, 0, "4 4 5 x0 1", put28);
        pairs("an other side of 31", 0, 0, 1, "4 4 4 5 x0 1", put28);
        String put27 = "5 x0 " + Check.repeated("6", 26) + " 3";
        pairs("an other side of 30 with what stands behind", 0, 1, 0, "7 5 x0 4 0 1", put27);
        pairs("an other side of 31 with what stands behind", 0, 0, 1, "7 5 x0 7 0 0 1", put27);
        pairs("an other side of 31 that would shrink", 0, 0, 1, "4 4 4 5 x0 1", put28, "6 x0 #0");
        pairs("an other side of 30 that shrinks", 0, 1, 0, "4 4 5 x0 1", put28, "6 x0 #0");
    }

    // "or the normal form of one of them ends with LONG"
    private static void endsWithLong() {
        String steps60 = Check.repeated("6", 20);
        String[] rules = {"4 0 " + steps60 + " 1", "0 2", "5 x0 x0", "6 x0 5 5 x0"};
        pairs("60 steps of the first side", 0, 1, 0, rules);
        rules[0] = "4 0 5 " + steps60 + " 1";
        pairs("61 steps of the first side", 0, 0, 1, rules);
        rules[0] = "4 0 1";
        rules[1] = "0 " + steps60 + " 2";
        pairs("60 steps of the other side", 0, 1, 0, rules);
        rules[1] = "0 5 " + steps60 + " 2";
        pairs("61 steps of the other side", 0, 0, 1, rules);
        pairs("no end of the first side", 0, 0, 1, "4 0 1", "0 2", "1 1");
        pairs("no end of the other side", 0, 0, 1, "4 0 1", "0 2", "2 2");
        pairs("no end of both sides", 0, 0, 1, "4 0 1", "0 1", "1 1");
    }

    // "or LARGE"
    private static void endsWithLarge() {
        String twice = "5 x0 7 x0 x0";
        pairs("an instance of 29 in the first side", 0, 1, 0, "4 0 5 " + SIZE_14, "0 2", twice);
        pairs("an instance of 31 in the first side", 0, 0, 1, "4 0 5 " + SIZE_15, "0 2", twice);
        pairs("an instance of 29 in the other side", 0, 1, 0, "4 0 1", "0 5 " + SIZE_14, twice);
        pairs("an instance of 31 in the other side", 0, 0, 1, "4 0 1", "0 5 " + SIZE_15, twice);
        pairs("arguments replaced, 30 in all", 0, 1, 0, "4 0 4 5 " + SIZE_14, "0 2", twice);
        pairs("arguments replaced, 31 in all", 0, 0, 1, "4 0 4 4 5 " + SIZE_14, "0 2", twice);
        pairs("arguments of the other side, 30 in all", 0, 1, 0, "4 0 1", "0 5 " + SIZE_14, twice);
        pairs("arguments of the other side, 31 in all", 0, 0, 1, "4 4 0 1", "0 5 " + SIZE_14, twice);
    }

    // "(each begins with no STEPS)"
    private static void eachBeginsWithNoSteps() {
        String steps60 = Check.repeated("6", 20);
        String[] rules = {"4 0 4 " + steps60 + " 1", "0 " + steps60 + " 1", "5 x0 x0", "6 x0 5 5 x0"};
        pairs("60 steps each", 1, 0, 0, rules);
        RewritingDesk desk = Check.deskWith("0 " + steps60 + " 1", "0 " + steps60 + " 1", "0 " + steps60 + " 1",
            "5 x0 x0", "6 x0 5 5 x0");
        counts("six pairs of 60 steps each", desk, 6, 0, 0);
        Check.reduces(desk, "0", RewritingDesk.LONG, 61, "");
        Check.due("drop", desk.drop(2), true);
        counts("after LONG", desk, 2, 0, 0);
        Check.due("steps of reduce", desk.steps(), 61);
    }

    // "JOINED if their normal forms are the same; else OPEN"
    private static void joinedElseOpen() {
        pairs("the same without a step", 2, 0, 0, "0 1", "0 1");
        pairs("the same after a step of one", 2, 0, 0, "0 1", "0 2", "1 2");
        pairs("the same after steps of both", 2, 0, 0, "0 1", "0 2", "1 3", "2 3");
        pairs("two symbols", 0, 2, 0, "0 1", "0 2");
        pairs("one the beginning of the other", 0, 2, 0, "0 4 1", "0 4 4 1");
        pairs("the last token", 0, 2, 0, "0 7 1 1", "0 7 1 2");
        pairs("two variables", 0, 2, 0, "7 x0 x1 x0", "7 x0 x1 x1");
        pairs("one variable", 2, 0, 0, "7 x0 x1 x0", "7 x1 x0 x1");
    }

    // The same sentence, with rules and sides as large as they can be: every token counts.
    private static void rulesOf30Tokens() {
        String grown = Check.repeated("6", 27);
        pairs("i of 30 tokens", 1, 0, 0, "4 0 " + grown + " 3", "0 1", "4 1 " + grown + " 3");
        pairs("i of 30 tokens, other than the last", 0, 1, 0, "4 0 " + grown + " 3", "0 1", "4 1 " + grown + " 2");
        pairs("j of 30 tokens", 1, 0, 0, "5 4 0 5 3", "4 0 " + grown + " 3", "6 3 3");
        pairs("j of 30 tokens, other than the last", 0, 1, 0, "5 4 0 5 3", "4 0 " + grown + " 2", "6 3 3");
        String[] both = {"5 4 x0 5 " + Check.repeated("6", 24) + " x0", "4 x0 " + Check.repeated("6", 24) + " x0"};
        pairs("sides of 26 with a variable last", 1, 0, 0, both);
        String[] full = {"4 4 0 4 4 1", "0 " + grown + " 3", "1 " + grown + " 3"};
        pairs("sides of 30", 1, 0, 0, full);
        full[2] = "1 " + grown + " 2";
        pairs("sides of 30, other than the last", 0, 1, 0, full);
    }

    // "Pairs are counted by i, then j, then p."
    private static void countedByIThenJThenP() {
        // At 1 and 2 of rule 0: the greater place has the lesser j.
        opens("j before p", Check.deskWith("7 1 0 2", "0 3", "1 3"), 0, 1, 2);
        // At 2 of rule 0 and at 0 of rule 1.
        opens("i before p", Check.deskWith("7 0 1 2", "7 x0 1 2", "1 3"), 0, 2, 2);
        // Rule 0 at a great j, rule 1 at a small one.
        RewritingDesk small = Check.deskWith("4 0 1", "5 4 x0 2");
        Check.put(small, "0 3");
        Check.due("rule 7", small.rule(7), OK);
        opens("i before j", small, 0, 7, 1);
        opens("p last", Check.deskWith("7 0 0 2", "0 3"), 0, 1, 1);
    }

    // "How many critical pairs there are: what 0 all, 1 JOINED, 2 OPEN, 3 UNKNOWN"
    private static void promise13HowMany() {
        counts("no rules", new RewritingDesk(), 0, 0, 0);
        pairs("one rule without", 0, 0, 0, "0 1");
        // 4 0 and 0: open; 5 5 x0: joined; 6 1 and 1: without end.
        pairs("one of each", 1, 1, 1, "4 0 2", "0 3", "5 5 x0 x0", "6 1 2", "1 1");
    }

    // The same sentence, with all eight rules and every place.
    private static void promise13AsManyAsCanBe() {
        String[] same = {"0 1", "0 1", "0 1", "0 1", "0 1", "0 1", "0 1", "0 1"};
        pairs("eight times 0 -> 1", 56, 0, 0, same);
        // A PEAK has 28 + p tokens; at 0 the pair is joined, at 1 and 2 open, at 3..26 too large.
        String chain = Check.repeated("4", 27) + " x0 0";
        pairs("27 symbols 4", 0, 2, 24, chain);
        pairs("27 symbols 4, eight times", 56, 128, 1536, chain, chain, chain, chain, chain, chain, chain, chain);
    }

    // "BAD for any other."
    private static void promise13BadForAnyOther() {
        RewritingDesk desk = Check.deskWith("0 1", "0 2");
        for (int what : new int[] {Integer.MIN_VALUE, Integer.MIN_VALUE + 2, -2, -1, 4, 5, 6, Integer.MAX_VALUE}) {
            Check.due("pairs(" + what + ")", desk.pairs(what), BAD);
            Check.due("pairs(" + what + ") without rules", new RewritingDesk().pairs(what), BAD);
        }
        counts("after BAD", desk, 0, 2, 0);
    }

    // The rules may have changed since pairs or open was asked before.
    private static void promise13OfTheRulesAsTheyAre() {
        RewritingDesk desk = Check.deskWith("0 1", "0 2");
        counts("at first", desk, 0, 2, 0);
        opens("at first", desk, 0, 1, 0);
        Check.put(desk, "2 #5");
        Check.due("a rule that isn't plain", desk.rule(6), OK);
        Check.put(desk, "1 #5");
        Check.due("another", desk.rule(7), OK);
        opens("with both", desk, NONE, NONE, NONE);
        counts("with both", desk, 2, 0, 0);
        Check.put(desk, "1 1 1");
        Check.due("a rule that is none", desk.rule(7), RewritingDesk.SYNTAX);
        counts("after SYNTAX", desk, 2, 0, 0);
        Check.put(desk, "1 1");
        Check.due("a rule without end", desk.rule(7), OK);
        counts("without end", desk, 0, 0, 2);
        Check.due("drop 5", desk.drop(5), false);
        counts("after a drop of none", desk, 0, 0, 2);
        Check.due("drop 7", desk.drop(7), true);
        counts("after a drop", desk, 0, 2, 0);
        // Of a rule that wasn't plain nothing is left in a shorter one that is.
        RewritingDesk shorter = Check.deskWith("4 #1 7 #1 #1", "7 #1 #1 1");
        counts("numbers", shorter, 0, 0, 0);
        Check.put(shorter, "0 1");
        Check.due("rule 0 without numbers", shorter.rule(0), OK);
        Check.put(shorter, "0 2");
        Check.due("rule 1 without numbers", shorter.rule(1), OK);
        counts("no numbers", shorter, 0, 2, 0);
    }

    // "Of the first OPEN pair: what 0 its i, 1 its j, 2 its p"
    private static void promise14FirstOpen() {
        // JOINED and UNKNOWN pairs come before it.
        RewritingDesk desk = Check.deskWith("4 4 x0 x0", "6 1 2", "1 1", "5 7 2 5 0 2", "5 0 3");
        counts("some before it", desk, 1, 1, 1);
        opens("some before it", desk, 3, 4, 3);
        RewritingDesk last = new RewritingDesk();
        Check.put(last, "4 0 1");
        Check.due("rule 7", last.rule(7), OK);
        Check.put(last, "0 2");
        Check.due("rule 6", last.rule(6), OK);
        opens("the last rules", last, 7, 6, 1);
        opens("a rule with itself", Check.deskWith("0 1", "4 4 x0 5 x0"), 1, 1, 1);
    }

    // "NONE if there is none"
    private static void promise14None() {
        opens("no rules", new RewritingDesk(), NONE, NONE, NONE);
        opens("no pairs", Check.deskWith("0 1"), NONE, NONE, NONE);
        opens("joined alone", Check.deskWith("0 1", "0 1"), NONE, NONE, NONE);
        opens("unknown alone", Check.deskWith("0 1", "0 2", "1 1"), NONE, NONE, NONE);
        RewritingDesk desk = Check.deskWith("0 1", "0 2");
        opens("an open one", desk, 0, 1, 0);
        Check.due("drop", desk.drop(1), true);
        opens("none any more", desk, NONE, NONE, NONE);
    }

    // "BAD for any other what"
    private static void promise14BadForAnyOther() {
        RewritingDesk desk = Check.deskWith("0 1", "0 2");
        for (int what : new int[] {Integer.MIN_VALUE, Integer.MIN_VALUE + 2, -2, -1, 3, 4, Integer.MAX_VALUE}) {
            Check.due("open(" + what + ")", desk.open(what), BAD);
            Check.due("open(" + what + ") without a pair", new RewritingDesk().open(what), BAD);
        }
        opens("after BAD", desk, 0, 1, 0);
    }
}
