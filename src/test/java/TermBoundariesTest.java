/**
 * Boundary cases of the sections "What it is" and "Terms", but for the critical pairs: a method for
 * each sentence that names one, with the sentence above it.
 */
public final class TermBoundariesTest {
    private static final int OK = RewritingDesk.OK;
    private static final int SYNTAX = RewritingDesk.SYNTAX;
    private static final int LONG = RewritingDesk.LONG;
    private static final int LARGE = RewritingDesk.LARGE;
    private static final int NONE = RewritingDesk.NONE;

    private static final int LEAST = Integer.MIN_VALUE;
    private static final int GREATEST = Integer.MAX_VALUE;

    private static final String SIZE_14 = Check.repeated("6", 13) + " 3";
    private static final String SIZE_15 = "6 " + SIZE_14;
    private static final String SIZE_29 = Check.repeated("6", 28) + " 3";

    /** 5 takes one step and 6 three, so that twenty symbols 6 take sixty. */
    private static final String FIVE = "5 x0 x0";
    private static final String SIX = "6 x0 5 5 x0";
    private static final String STEPS_60 = Check.repeated("6", 20);

    private TermBoundariesTest() {
    }

    public static void main(String[] args) {
        usedFor512Calls();
        symbolsAndTheirArguments();
        numbersAreAnyInt();
        variablesAndWholes0To3();
        sizeIsTheNumberOfTokens();
        orderOfNumbers();
        orderBySymbol();
        orderByArguments();
        eightRulesAtOnce();
        leftIsNoVariableWholeOrNumberAlone();
        leftHasAtMostFourNines();
        rightHasNamesOfLeftAlone();
        variablesTakeTermsAndWholesNumbers();
        sameNameSameTerm();
        exactlyButForNine();
        everyWay();
        everyWayOfEightRules();
        theWayThatCounts();
        numberIsItsOwn();
        argumentsFirst();
        exchangedIfSecondComesBefore();
        sumsWrap();
        productsWrap();
        bothMustBeNumbers();
        leastRule();
        moreThan60Steps();
        sumsAreSteps();
        fromTheBeginning();
        mostTokensInLine();
        instanceAbove30();
        argumentsReplacedAbove30();
        largeAfterItsStep();
        stepTooManyFirst();
        Check.end("TermBoundariesTest");
    }

    // "An object is used for at most 512 calls after it has been made"
    private static void usedFor512Calls() {
        RewritingDesk desk = new RewritingDesk();
        int calls = 0;
        for (; calls < 480; calls++) {
            Check.due("call " + calls, calls % 31 == 30 ? desk.wipe() : desk.token(1, 1) ? 1 : 0,
                calls % 31 == 30 ? 30 : 1);
        }
        desk.wipe();
        calls++;
        for (String word : ("4 " + SIZE_14 + " " + SIZE_14).split(" ")) {
            Check.due("token late", desk.token(Check.kindOf(word), Check.valueOf(word)), true);
            calls++;
        }
        Check.due("calls so far", calls, 510);
        Check.due("call 511", desk.rule(0), OK);
        Check.due("call 512", desk.drop(0), true);
        // What comes then is free, but it may not throw.
        for (int n = 0; n < 2000; n++) {
            desk.token(n % 4, n % 3);
            desk.reduce();
            desk.rule(n % 8);
            desk.pairs(0);
        }
    }

    // "SYMBOLS 0..11 - 0..3 stand alone, 4..6 have one argument, 7..11 two -"
    private static void symbolsAndTheirArguments() {
        for (int symbol = 0; symbol <= 11; symbol++) {
            int arguments = symbol <= 3 ? 0 : symbol <= 6 ? 1 : 2;
            RewritingDesk desk = Check.put(new RewritingDesk(), "" + symbol);
            for (int had = 0; had < arguments; had++) {
                Check.due(symbol + " with " + had + " arguments", desk.reduce(), SYNTAX);
                Check.due("place: " + symbol + " with " + had + " arguments", desk.place(), 1 + had);
                Check.put(desk, "0");
            }
            Check.due(symbol + " with " + arguments + " arguments", desk.reduce(), OK);
            Check.due("size: " + symbol + " with its arguments", desk.size(), 1 + arguments);
            Check.put(desk, "0");
            Check.due(symbol + " with an argument too many", desk.reduce(), SYNTAX);
            Check.due("place: " + symbol + " with an argument too many", desk.place(), 1 + arguments);
        }
    }

    // "NUMBERS (ints)", "1 NUMBER (any int)"
    private static void numbersAreAnyInt() {
        RewritingDesk desk = new RewritingDesk();
        int[] numbers = {LEAST, LEAST + 1, -65536, -1, 0, 1, 11, 12, 65536, GREATEST - 1, GREATEST};
        for (int number : numbers) {
            Check.reduces(desk, "#" + number, OK, 0, "#" + number);
            Check.reduces(desk, "4 #" + number, OK, 0, "4 #" + number);
        }
    }

    // "in rules, VARIABLES 0..3 and WHOLES 0..3"
    private static void variablesAndWholes0To3() {
        RewritingDesk desk = Check.deskWith("7 7 7 x0 x1 7 x2 x3 7 7 w0 w1 7 w2 w3"
            + " 8 8 8 w3 w2 8 w1 w0 8 8 x3 x2 8 x1 x0");
        Check.reduces(desk, "7 7 7 0 1 7 2 3 7 7 #10 #11 7 #12 #13", OK, 1,
            "8 8 8 #13 #12 8 #11 #10 8 8 3 2 8 1 0");
    }

    // "The SIZE of a term is the number of its tokens."
    private static void sizeIsTheNumberOfTokens() {
        RewritingDesk desk = new RewritingDesk();
        for (int size = 1; size <= 30; size++) {
            Check.reduces(desk, Check.repeated("4", size - 1) + " 0", OK, 0,
                (Check.repeated("4", size - 1) + " 0").trim());
            Check.due("size of " + size + " tokens", desk.size(), size);
        }
    }

    /** Symbol 9 brings two terms into their ORDER. */
    private static void comesFirst(String one, String other) {
        RewritingDesk desk = new RewritingDesk();
        Check.reduces(desk, "9 " + one + " " + other, OK, 0, "9 " + one + " " + other);
        Check.reduces(desk, "9 " + other + " " + one, OK, 0, "9 " + one + " " + other);
    }

    // "numbers by value, before all others"
    private static void orderOfNumbers() {
        int[] numbers = {LEAST, LEAST + 1, -2, -1, 0, 1, 2, GREATEST - 1, GREATEST};
        for (int one = 0; one < numbers.length; one++) {
            for (int other = one; other < numbers.length; other++) {
                comesFirst("#" + numbers[one], "#" + numbers[other]);
            }
            for (String term : new String[] {"0", "3", "4 #" + LEAST, "9 0 0", "11 0 #0"}) {
                comesFirst("#" + numbers[one], term);
            }
        }
    }

    // "others by symbol"
    private static void orderBySymbol() {
        // Whatever the arguments are: those of the lower symbol are the greatest here.
        String[] arguments = {"", " 3", " 3 3"};
        String[] least = {"", " #0", " #0 0"};
        for (int one = 0; one <= 11; one++) {
            for (int other = one + 1; other <= 11; other++) {
                comesFirst(one + arguments[one < 4 ? 0 : one < 7 ? 1 : 2],
                    other + least[other < 4 ? 0 : other < 7 ? 1 : 2]);
            }
        }
        comesFirst("4 " + SIZE_14, "5 #0");
    }

    // "then by the first argument, then by the second"
    private static void orderByArguments() {
        comesFirst("4 0", "4 1");
        comesFirst("4 #5", "4 0");
        comesFirst("4 #-1", "4 #0");
        comesFirst("7 0 3", "7 1 0");
        comesFirst("7 #-1 3", "7 #0 0");
        comesFirst("7 4 4 4 0 3", "7 5 0 #0");
        comesFirst("7 1 0", "7 1 2");
        comesFirst("7 1 #-1", "7 1 #0");
        comesFirst("7 4 0 #9", "7 4 0 0");
        comesFirst("8 7 0 0 7 0 1", "8 7 0 0 7 0 2");
        comesFirst("8 7 0 1 7 3 3", "8 7 0 2 7 0 0");
        comesFirst("11 0 #-1", "11 0 #1");
    }

    // "RULES 0..7, each absent or a pair LEFT, RIGHT of terms"
    private static void eightRulesAtOnce() {
        RewritingDesk desk = new RewritingDesk();
        for (int r = 0; r <= 7; r++) {
            Check.put(desk, "4 #" + r + " #" + (100 + r));
            Check.due("rule " + r, desk.rule(r), OK);
        }
        for (int r = 0; r <= 7; r++) {
            Check.reduces(desk, "4 #" + r, OK, 1, "#" + (100 + r));
        }
        for (int r = 0; r <= 7; r++) {
            Check.due("drop " + r, desk.drop(r), true);
            Check.reduces(desk, "4 #" + r, OK, 0, "4 #" + r);
            Check.reduces(desk, "4 #7", OK, r < 7 ? 1 : 0, r < 7 ? "#107" : "4 #7");
        }
        // LEFT and RIGHT as large as a draft lets them be.
        Check.reduces(Check.deskWith(SIZE_29 + " 0"), SIZE_29, OK, 1, "0");
        Check.reduces(Check.deskWith("0 " + SIZE_29), "0", OK, 1, SIZE_29);
        Check.reduces(Check.deskWith("0 1"), "0", OK, 1, "1");
    }

    private static void rule(String draft, int code, int place) {
        RewritingDesk desk = Check.put(new RewritingDesk(), draft);
        Check.due("rule of " + draft, desk.rule(0), code);
        Check.due("place of " + draft, desk.place(), place);
    }

    // "LEFT is not a variable, whole or number alone"
    private static void leftIsNoVariableWholeOrNumberAlone() {
        for (int value = 0; value <= 3; value++) {
            rule("x" + value + " 0", SYNTAX, 0);
            rule("w" + value + " 0", SYNTAX, 0);
            rule("#" + value + " 0", SYNTAX, 0);
            rule(value + " 0", OK, -1);
            rule("4 x" + value + " 0", OK, -1);
            rule("4 w" + value + " 0", OK, -1);
            rule("4 #" + value + " 0", OK, -1);
        }
        rule("x0 x0", SYNTAX, 0);
        rule("0 #1", OK, -1);
        rule("4 x0 x0", OK, -1);
        rule("4 w0 w0", OK, -1);
    }

    // "has at most four symbols 9"
    private static void leftHasAtMostFourNines() {
        rule("9 9 9 9 0 0 0 0 0 1", OK, -1);
        rule("9 9 9 9 9 0 0 0 0 0 0 1", SYNTAX, 4);
        rule("9 0 9 0 9 0 9 0 0 1", OK, -1);
        rule("9 0 9 0 9 0 9 0 9 0 0 1", SYNTAX, 8);
        rule("8 9 0 0 8 9 0 0 8 9 0 0 9 0 0 1", OK, -1);
        rule("8 9 0 0 8 9 0 0 8 9 0 0 8 9 0 0 9 0 0 1", SYNTAX, 16);
        // The numbers, variables and wholes with a 9 are none, and RIGHT is free.
        rule("7 #9 7 #9 7 #9 7 #9 #9 0", OK, -1);
        rule("9 9 9 9 0 0 0 0 0 9 9 9 9 9 9 9 9 9 9 0 0 0 0 0 0 0 0 0 0 0", OK, -1);
    }

    // "and all variables and wholes that RIGHT has"
    private static void rightHasNamesOfLeftAlone() {
        String[] names = {"x0", "x1", "x2", "x3", "w0", "w1", "w2", "w3"};
        for (String had : names) {
            for (String asked : names) {
                boolean same = had.equals(asked);
                rule("4 " + had + " " + asked, same ? OK : SYNTAX, same ? -1 : 2);
                rule("4 " + had + " 7 " + had + " " + asked, same ? OK : SYNTAX, same ? -1 : 4);
            }
            rule("0 " + had, SYNTAX, 1);
        }
        rule("7 7 x0 x1 7 x2 x3 0", OK, -1);
    }

    private static void matches(String left, String term, boolean does) {
        RewritingDesk desk = Check.deskWith(left + " #77");
        Check.put(desk, term);
        Check.due(left + " matches " + term, desk.matching(), does ? 0 : NONE);
    }

    // "if there are terms for its variables, and numbers for its wholes, with which LEFT is that term"
    private static void variablesTakeTermsAndWholesNumbers() {
        String[] terms = {"0", "3", SIZE_14, SIZE_29, "9 1 0", "10 #1 #2"};
        for (String term : terms) {
            matches("4 x0", "4 " + term, true);
            matches("4 w0", "4 " + term, false);
            matches("5 x0", "4 " + term, false);
        }
        for (int number : new int[] {LEAST, -1, 0, 1, GREATEST}) {
            matches("4 x3", "4 #" + number, true);
            matches("4 w3", "4 #" + number, true);
            matches("4 #" + number, "4 #" + number, true);
            matches("4 #" + number, "4 #" + (number + 1), false);
            matches("4 #" + number, "4 #" + (number - 1), false);
        }
        matches("4 #1", "4 1", false);
        matches("4 1", "4 #1", false);
        // Not a part of the term, nor a part of LEFT.
        matches("4 0", "4 4 0", false);
        matches("4 4 0", "4 0", false);
        matches("4 4 x0", "4 0", false);
    }

    // The same sentence, for a variable or whole that LEFT has more than once.
    private static void sameNameSameTerm() {
        matches("7 x0 x0", "7 0 0", true);
        matches("7 x0 x0", "7 0 1", false);
        matches("7 x0 x0", "7 #-1 #-1", true);
        matches("7 x0 x0", "7 #1 1", false);
        matches("7 x0 x0", "7 " + SIZE_14 + " " + SIZE_14, true);
        matches("7 x0 x0", "7 " + SIZE_14 + " " + SIZE_15, false);
        matches("7 x0 x0", "7 7 0 1 7 0 2", false);
        matches("7 x0 x1", "7 0 0", true);
        matches("7 w0 w0", "7 #5 #5", true);
        matches("7 w0 w0", "7 #5 #6", false);
        matches("7 w0 w1", "7 #5 #5", true);
        // Variable 0 and whole 0 are two names.
        matches("7 x0 w0", "7 #5 #6", true);
        matches("7 x0 w0", "7 0 #6", true);
    }

    // "exactly, but that for symbol 9 also its two arguments may be exchanged at any place of LEFT"
    private static void exactlyButForNine() {
        for (int symbol : new int[] {7, 8, 10, 11}) {
            matches(symbol + " #1 0", symbol + " #1 0", true);
            matches(symbol + " #1 0", symbol + " 0 #1", false);
        }
        matches("9 #1 0", "9 #1 0", true);
        matches("9 #1 0", "9 0 #1", true);
        matches("9 #1 0", "9 0 0", false);
        matches("7 9 #1 0 9 #2 0", "7 9 0 #1 9 0 #2", true);
        matches("7 9 #1 0 9 #2 0", "7 9 0 #2 9 0 #1", false);
        // A symbol 9 in what a variable stands for is none of LEFT.
        matches("7 x0 x0", "7 9 0 1 9 1 0", false);
    }

    // The same sentence, for each of the sixteen ways of four symbols 9, in a row and in a nest.
    private static void everyWay() {
        for (int way = 0; way < 16; way++) {
            StringBuilder row = new StringBuilder();
            for (int nine = 0; nine < 4; nine++) {
                boolean exchanged = (way >> nine & 1) == 1;
                row.append(nine < 3 ? "8 " : "").append(exchanged ? "9 1 0 " : "9 0 1 ");
            }
            matches("8 9 0 1 8 9 0 1 8 9 0 1 9 0 1", row.toString(), true);
            matches("8 9 0 1 8 9 0 1 8 9 0 1 9 0 1", row.toString().replaceFirst("0", "2"), false);
            String nest = "#0";
            for (int nine = 1; nine <= 4; nine++) {
                boolean exchanged = (way >> nine - 1 & 1) == 1;
                nest = exchanged ? "9 #" + nine + " " + nest : "9 " + nest + " #" + nine;
            }
            matches("9 9 9 9 #0 #1 #2 #3 #4", nest, true);
            matches("9 9 9 9 #0 #1 #2 #3 #4", nest.replace("#0", "#1"), false);
        }
    }

    // The same sentence, with all eight rules as full of symbols 9 as they can be.
    private static void everyWayOfEightRules() {
        for (boolean upwards : new boolean[] {true, false}) {
            RewritingDesk desk = new RewritingDesk();
            for (int n = 0; n <= 7; n++) {
                int r = upwards ? n : 7 - n;
                Check.put(desk, "9 9 9 9 #" + r + " #11 #12 #13 #14 #" + (100 + r));
                Check.due("rule " + r, desk.rule(r), OK);
            }
            for (int r = 0; r <= 7; r++) {
                for (String term : new String[] {"9 9 9 9 #R #11 #12 #13 #14", "9 #14 9 #13 9 #12 9 #11 #R",
                    "9 #14 9 9 #12 9 #R #11 #13"}) {
                    desk.wipe();
                    Check.put(desk, term.replace("R", "" + r));
                    Check.due("matching of " + term + " for " + r, desk.matching(), r);
                }
            }
            Check.reduces(desk, "9 9 9 9 #7 #11 #12 #13 #14", OK, 1, "#107");
        }
        // What RIGHT begins with is no place of LEFT.
        Check.reduces(Check.deskWith("9 5 x0 4 x1 9 x0 x1"), "9 4 0 5 1", OK, 1, "9 0 1");
        Check.reduces(Check.deskWith("9 5 x0 9 4 x1 6 x2 9 9 x0 x1 x2"), "9 5 0 9 4 1 6 2", OK, 1, "9 2 9 0 1");
    }

    // "that one counts which exchanges first at the latest place"
    private static void theWayThatCounts() {
        Check.reduces(Check.deskWith("9 x0 x1 7 x0 x1"), "9 0 1", OK, 1, "7 0 1");
        // Exchanging at the second, third and fourth comes before exchanging at the first alone.
        String row = "8 9 x0 x1 8 9 x1 x2 8 9 x1 x2 9 x1 x2 7 x0 x1";
        Check.reduces(Check.deskWith(row), "8 9 0 1 8 9 0 1 8 9 0 1 9 0 1", OK, 1, "7 0 1");
        // So does exchanging at the third and fourth before the second, and at the fourth before the third.
        row = "8 9 2 3 8 9 x0 x1 8 9 x1 x2 9 x1 x2 7 x0 x1";
        Check.reduces(Check.deskWith(row), "8 9 2 3 8 9 0 1 8 9 0 1 9 0 1", OK, 1, "7 0 1");
        row = "8 9 2 3 8 9 2 3 8 9 x0 x1 9 x1 x2 7 x0 x1";
        Check.reduces(Check.deskWith(row), "8 9 2 3 8 9 2 3 8 9 0 1 9 0 1", OK, 1, "7 0 1");
        // Places are those of LEFT's tokens: the outer symbol 9 stands before the inner one.
        Check.reduces(Check.deskWith("9 9 x0 x1 9 x2 x3 8 8 x0 x1 8 x2 x3"),
            "9 9 0 1 9 2 3", OK, 1, "8 8 0 1 8 2 3");
        Check.reduces(Check.deskWith("9 9 x0 x1 9 x1 x2 8 8 x0 x1 x2"), "9 9 0 1 9 0 2", OK, 1, "8 8 1 0 2");
        Check.reduces(Check.deskWith("9 9 x0 x1 9 x2 x0 8 8 x0 x1 x2"), "9 9 0 1 9 0 2", OK, 1, "8 8 0 1 2");
    }

    // "a number is its own"
    private static void numberIsItsOwn() {
        RewritingDesk desk = Check.deskWith("0 #1", "4 #1 #1", "5 w0 w0", "10 #1 x0 x0");
        Check.reduces(desk, "#1", OK, 0, "#1");
        Check.reduces(desk, "0", OK, 1, "#1");
    }

    // "first its arguments are replaced by their normal forms, the first one first"
    private static void argumentsFirst() {
        RewritingDesk desk = Check.deskWith("0 1", "4 0 2", "4 1 3", "2 2", "5 x0 7 x0 x0");
        Check.reduces(desk, "4 0", OK, 2, "3");
        // Which of the two comes to its end is told by the code.
        Check.reduces(desk, "7 2 5 " + SIZE_15, LONG, 61, "");
        Check.reduces(desk, "7 5 " + SIZE_15 + " 2", LARGE, 1, "");
        Check.reduces(desk, "7 0 5 " + SIZE_15, LARGE, 2, "");
    }

    // "for symbol 9 they are exchanged if the second then comes before the first in the ORDER"
    private static void exchangedIfSecondComesBefore() {
        RewritingDesk desk = Check.deskWith("0 3");
        Check.reduces(desk, "9 1 1", OK, 0, "9 1 1");
        Check.reduces(desk, "9 0 1", OK, 1, "9 1 3");
        Check.reduces(desk, "9 1 0", OK, 1, "9 1 3");
        for (int symbol : new int[] {7, 8, 10, 11}) {
            Check.reduces(desk, symbol + " 2 1", OK, 0, symbol + " 2 1");
        }
        // SIZE 30, with the smaller argument first and last.
        Check.reduces(desk, "9 " + SIZE_14 + " 5 " + SIZE_14, OK, 0, "9 5 " + SIZE_14 + " " + SIZE_14);
        Check.reduces(desk, "9 " + Check.repeated("6", 27) + " 3 2", OK, 0, "9 2 " + Check.repeated("6", 27) + " 3");
    }

    private static void calculates(int symbol, int one, int other, int value) {
        Check.reduces(new RewritingDesk(), symbol + " #" + one + " #" + other, OK, 1, "#" + value);
    }

    // "their sum or product (wrapping), in one STEP"
    private static void sumsWrap() {
        calculates(10, GREATEST, 0, GREATEST);
        calculates(10, GREATEST, 1, LEAST);
        calculates(10, 1, GREATEST, LEAST);
        calculates(10, GREATEST, GREATEST, -2);
        calculates(10, LEAST, 0, LEAST);
        calculates(10, LEAST, -1, GREATEST);
        calculates(10, LEAST, LEAST, 0);
        calculates(10, LEAST, GREATEST, -1);
        calculates(10, -1, 1, 0);
        calculates(10, GREATEST - 1, 1, GREATEST);
        calculates(10, LEAST + 1, -1, LEAST);
    }

    // The same sentence, for the product.
    private static void productsWrap() {
        calculates(11, LEAST, -1, LEAST);
        calculates(11, -1, LEAST, LEAST);
        calculates(11, LEAST, 2, 0);
        calculates(11, LEAST, LEAST, 0);
        calculates(11, LEAST, 3, LEAST);
        calculates(11, GREATEST, GREATEST, 1);
        calculates(11, GREATEST, -1, LEAST + 1);
        calculates(11, GREATEST, 2, -2);
        calculates(11, 65536, 32767, 2147418112);
        calculates(11, 65536, 32768, LEAST);
        calculates(11, 65536, 65536, 0);
        calculates(11, 46341, 46341, -2147479015);
        calculates(11, GREATEST, 0, 0);
    }

    // "if the symbol is 10 or 11 and both arguments are numbers"
    private static void bothMustBeNumbers() {
        RewritingDesk desk = new RewritingDesk();
        for (String term : new String[] {"7 #1 #2", "8 #1 #2", "9 #1 #2", "10 #1 0", "10 0 #1", "10 0 1",
            "11 #1 0", "11 0 #1", "11 0 1", "10 4 #1 #1", "11 #1 4 #1"}) {
            Check.reduces(desk, term, OK, 0, term);
        }
        // Numbers once they are replaced; and a rule has no say, though it matches.
        Check.reduces(desk, "10 11 #2 #3 10 #1 #1", OK, 3, "#8");
        RewritingDesk ruled = Check.deskWith("10 #1 #2 0", "11 w0 w1 0", "1 #1");
        Check.reduces(ruled, "10 #1 #2", OK, 1, "#3");
        Check.reduces(ruled, "11 1 #2", OK, 2, "#2");
    }

    // "if a rule matches, the one with the least number"
    private static void leastRule() {
        RewritingDesk desk = new RewritingDesk();
        for (int r = 7; r >= 0; r--) {
            desk.wipe();
            Check.put(desk, "4 x0 #" + r);
            Check.due("rule " + r, desk.rule(r), OK);
            Check.reduces(desk, "4 0", OK, 1, "#" + r);
        }
        // An exchange at a lesser rule comes before none at a greater one.
        RewritingDesk nine = Check.deskWith("9 1 0 #0", "9 0 1 #1");
        Check.reduces(nine, "9 0 1", OK, 1, "#0");
    }

    // "more than LIMIT (60) STEPS end it with LONG"
    private static void moreThan60Steps() {
        RewritingDesk desk = Check.deskWith(FIVE, SIX, "2 2");
        Check.reduces(desk, Check.repeated("6", 19) + " 5 5 0", OK, 59, "0");
        Check.reduces(desk, STEPS_60 + " 0", OK, 60, "0");
        Check.reduces(desk, STEPS_60 + " 5 0", LONG, 61, "");
        Check.reduces(desk, STEPS_60 + " 6 0", LONG, 61, "");
        Check.reduces(desk, "7 " + STEPS_60 + " 0 0", OK, 60, "7 0 0");
        Check.reduces(desk, "7 " + STEPS_60 + " 0 5 0", LONG, 61, "");
        Check.reduces(desk, "5 7 " + STEPS_60 + " 0 0", LONG, 61, "");
        Check.reduces(desk, "2", LONG, 61, "");
    }

    // "in one STEP", of sums and products: they count like the others.
    private static void sumsAreSteps() {
        RewritingDesk desk = Check.deskWith(FIVE, SIX);
        Check.reduces(desk, Check.repeated("6", 19) + " 5 5 10 #1 #2", OK, 60, "#3");
        Check.reduces(desk, STEPS_60 + " 10 #1 #2", LONG, 61, "");
        Check.reduces(desk, "10 #1 " + STEPS_60 + " #2", LONG, 61, "");
        Check.reduces(desk, "11 #1 " + STEPS_60 + " #2", LONG, 61, "");
        Check.reduces(desk, "10 0 " + STEPS_60 + " #2", OK, 60, "10 0 #2");
    }

    // "While this is done (from the beginning for every reduce, equal or pair)"
    private static void fromTheBeginning() {
        RewritingDesk desk = Check.deskWith(FIVE, SIX, "2 2");
        Check.reduces(desk, STEPS_60 + " 0", OK, 60, "0");
        Check.due("reduce once more", desk.reduce(), OK);
        Check.due("steps once more", desk.steps(), 60);
        desk.wipe();
        Check.put(desk, STEPS_60 + " 0 0");
        Check.due("equal after reduce", desk.equal(), 1);
        Check.due("steps of equal", desk.steps(), 60);
        Check.reduces(desk, "2", LONG, 61, "");
        Check.reduces(desk, STEPS_60 + " 0", OK, 60, "0");
        Check.due("pairs", desk.pairs(0), 0);
        Check.due("reduce after pairs", desk.reduce(), OK);
        Check.due("steps after pairs", desk.steps(), 60);
        // Nothing is left of arguments that weren't reached before the end.
        for (String term : new String[] {"7 2 7 0 1", "7 4 " + SIZE_15 + " 7 0 1", "8 9 2 #1 10 #1 #2"}) {
            RewritingDesk ended = endedAt(term);
            Check.reduces(ended, "7 0 10 #1 #2", OK, 1, "7 0 #3");
            ended = endedAt(term);
            ended.wipe();
            Check.put(ended, "9 1 0 9 0 1");
            Check.due("equal after reduce of " + term, ended.equal(), 1);
            Check.due("joined pairs after reduce of " + term, endedAt(term).pairs(1), 1);
            Check.due("open pairs after reduce of " + term, endedAt(term).pairs(2), 2);
        }
    }

    private static RewritingDesk endedAt(String term) {
        RewritingDesk desk = Check.deskWith("2 2", "4 x0 7 x0 x0", "5 5 x0 x0", "8 3 x0 3", "8 x0 3 0");
        Check.put(desk, term);
        Check.due("reduce of " + term + " ends", desk.reduce() >= LONG, true);
        return desk;
    }

    // "more than LIMIT (60) STEPS", with as much as they can bring: by 28 tokens more at each.
    private static void mostTokensInLine() {
        String[] grown = {"7 0 " + Check.repeated("6", 26) + " 3", "7 " + Check.repeated("6", 26) + " 3 0",
            Check.repeated("6", 28) + " 0", Check.repeated("7 1", 14) + " 0"};
        for (String right : grown) {
            RewritingDesk desk = Check.deskWith("0 " + right);
            Check.reduces(desk, "0", LONG, 61, "");
            Check.reduces(desk, Check.repeated("7 0", 14) + " 0", LONG, 61, "");
            Check.reduces(desk, "7 1 2", OK, 0, "7 1 2");
        }
    }

    // "an INSTANCE [..] of a SIZE above 30 ends it with LARGE"
    private static void instanceAbove30() {
        RewritingDesk desk = Check.deskWith("5 x0 7 x0 x0", "8 x0 x1 4 7 x0 x0", "4 4 x0 4 4 7 x0 x0", "11 x0 x1 x1");
        Check.reduces(desk, "5 " + SIZE_14, OK, 1, "7 " + SIZE_14 + " " + SIZE_14);
        Check.reduces(desk, "8 " + SIZE_14 + " 0", OK, 1, "4 7 " + SIZE_14 + " " + SIZE_14);
        Check.reduces(desk, "4 4 " + SIZE_14, LARGE, 1, "");
        Check.reduces(desk, "5 " + SIZE_15, LARGE, 1, "");
        // What stands around the instance doesn't count to it.
        Check.reduces(Check.deskWith("5 x0 7 x0 x0", "7 x0 x0 x0"), Check.repeated("4", 14) + " 5 " + SIZE_14,
            OK, 2, Check.repeated("4", 14) + " " + SIZE_14);
        // An instance of SIZE 31 is too large though its normal form would be small.
        Check.reduces(Check.deskWith("5 x0 7 x0 x0", "7 x0 x0 x0"), "5 " + SIZE_15, LARGE, 1, "");
        Check.reduces(Check.deskWith("5 x0 7 x0 x0", "7 x0 x0 x0"), "5 " + SIZE_14, OK, 2, SIZE_14);
        // In the second term of equal too.
        RewritingDesk two = Check.put(Check.deskWith("5 x0 7 x0 x0"), "0 5 " + SIZE_15);
        Check.due("equal with a large second term", two.equal(), -LARGE);
    }

    // "or a term with its arguments replaced, of a SIZE above 30 ends it with LARGE"
    private static void argumentsReplacedAbove30() {
        RewritingDesk desk = Check.deskWith("0 " + SIZE_14, "1 " + SIZE_15, "2 " + SIZE_29, "4 x0 #4", "8 x0 x1 #8",
            "9 x0 x1 #9");
        Check.reduces(desk, "7 0 1", OK, 2, "7 " + SIZE_14 + " " + SIZE_15);
        Check.reduces(desk, "7 1 0", OK, 2, "7 " + SIZE_15 + " " + SIZE_14);
        Check.reduces(desk, "7 1 1", LARGE, 2, "");
        Check.reduces(desk, "5 2", OK, 1, "5 " + SIZE_29);
        Check.reduces(desk, "5 5 2", LARGE, 1, "");
        Check.reduces(desk, "7 2 3", LARGE, 1, "");
        Check.reduces(desk, "7 3 2", LARGE, 1, "");
        // A rule that would make the term small comes too late.
        Check.reduces(desk, "4 2", OK, 2, "#4");
        Check.reduces(desk, "4 5 2", LARGE, 1, "");
        Check.reduces(desk, "8 0 1", OK, 3, "#8");
        Check.reduces(desk, "8 1 1", LARGE, 2, "");
        Check.reduces(desk, "9 1 0", OK, 3, "#9");
        Check.reduces(desk, "9 1 1", LARGE, 2, "");
        // Each argument is small before its term is: the sizes on the way don't add up.
        Check.reduces(desk, "7 4 2 4 2", OK, 4, "7 #4 #4");
    }

    // "(an INSTANCE: after its STEP"
    private static void largeAfterItsStep() {
        // Each 4 doubles what it finds: 3, 7, 15 and then 31 tokens.
        RewritingDesk grows = Check.deskWith("4 x0 7 x0 x0");
        Check.reduces(grows, "4 " + SIZE_15, LARGE, 1, "");
        Check.reduces(grows, "4 4 4 0", OK, 3, "7 7 7 0 0 7 0 0 7 7 0 0 7 0 0");
        Check.reduces(grows, "4 4 4 4 0", LARGE, 4, "");
        // A term with its arguments replaced takes no step of its own.
        Check.reduces(Check.deskWith("0 " + SIZE_29), "7 0 1", LARGE, 1, "");
        Check.reduces(Check.deskWith("0 " + SIZE_29), "7 1 0", LARGE, 1, "");
    }

    // "a step too many is tested first)"
    private static void stepTooManyFirst() {
        // 5 #28 takes 57 steps, and one more for the symbol 0 that it becomes.
        RewritingDesk late = Check.deskWith("5 #0 0", "5 w0 5 10 w0 #-1", "4 x0 7 x0 x0", "0 1");
        Check.reduces(late, "7 5 #28 3", OK, 58, "7 1 3");
        Check.reduces(late, "7 5 #28 4 " + SIZE_15, LARGE, 59, "");
        Check.reduces(late, "7 10 #1 #1 7 5 #28 4 " + SIZE_15, LARGE, 60, "");
        Check.reduces(late, "7 11 10 #1 #1 #1 7 5 #28 4 " + SIZE_15, LONG, 61, "");
        // A term with its arguments replaced is looked at before a rule takes its step.
        String grown = Check.repeated("4", 13) + " 3";
        RewritingDesk full = Check.deskWith(FIVE, SIX, "0 " + grown, "1 4 " + grown, "8 x0 x1 #8");
        Check.reduces(full, "8 " + Check.repeated("6", 19) + " 0 0", OK, 60, "#8");
        Check.reduces(full, "8 " + Check.repeated("6", 19) + " 5 0 0", LONG, 61, "");
        Check.reduces(full, "8 " + Check.repeated("6", 19) + " 5 1 1", LARGE, 60, "");
        Check.reduces(full, "8 " + STEPS_60 + " 1 1", LONG, 61, "");
    }
}
