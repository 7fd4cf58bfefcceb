/** Promises 6, 7 and 9 to 12: normal forms, their steps and ends, results and matching. */
public final class NormalFormTest {
    private static final int OK = RewritingDesk.OK;
    private static final int LONG = RewritingDesk.LONG;
    private static final int LARGE = RewritingDesk.LARGE;

    private static final String SIZE_14 = Check.repeated("6", 13) + " 3";

    private NormalFormTest() {
    }

    public static void main(String[] args) {
        promise6InsideOutwards();
        promise6Arithmetic();
        promise6Unordered();
        promise6Wholes();
        promise6Long();
        promise6LargeInstance();
        promise6LargeArguments();
        promise6NoResult();
        promise7Equal();
        promise9Steps();
        promise10And11Result();
        promise12Matching();
        promise12Ways();
        Check.end("NormalFormTest");
    }

    private static void promise6InsideOutwards() {
        RewritingDesk peano = Check.deskWith("7 0 x0 x0", "7 4 x0 x1 4 7 x0 x1");
        Check.reduces(peano, "7 4 4 0 4 0", OK, 3, "4 4 4 0");
        Check.reduces(peano, "#-5", OK, 0, "#-5");
        Check.reduces(peano, "8 7 0 1 7 0 2", OK, 2, "8 1 2");
        RewritingDesk inner = Check.deskWith("4 0 1", "5 4 x0 2", "5 1 3");
        Check.reduces(inner, "5 4 0", OK, 2, "3");
        Check.reduces(inner, "5 4 2", OK, 1, "2");
        RewritingDesk twice = Check.deskWith("7 x0 x0 x0");
        Check.reduces(twice, "7 4 0 4 0", OK, 1, "4 0");
        Check.reduces(twice, "7 4 0 4 1", OK, 0, "7 4 0 4 1");
        Check.reduces(twice, "7 7 0 0 0", OK, 2, "0");
        RewritingDesk constant = Check.deskWith("0 4 1", "1 #3");
        Check.reduces(constant, "0", OK, 2, "4 #3");
    }

    private static void promise6Arithmetic() {
        RewritingDesk none = new RewritingDesk();
        Check.reduces(none, "10 #2147483647 #1", OK, 1, "#-2147483648");
        Check.reduces(none, "11 #65537 #65537", OK, 1, "#131073");
        Check.reduces(none, "11 10 #1 #2 10 #3 #4", OK, 3, "#21");
        Check.reduces(none, "10 #1 0", OK, 0, "10 #1 0");
        Check.reduces(none, "10 0 #1", OK, 0, "10 0 #1");
        RewritingDesk rules = Check.deskWith("10 x0 x1 0", "11 x0 #0 1");
        Check.reduces(rules, "10 #1 #2", OK, 1, "#3");
        Check.reduces(rules, "10 #1 2", OK, 1, "0");
        Check.reduces(rules, "11 2 #0", OK, 1, "1");
        Check.reduces(rules, "11 #2 #0", OK, 1, "#0");
    }

    private static void promise6Unordered() {
        RewritingDesk none = new RewritingDesk();
        Check.reduces(none, "9 0 #7", OK, 0, "9 #7 0");
        Check.reduces(none, "9 #7 #-7", OK, 0, "9 #-7 #7");
        Check.reduces(none, "9 #2147483647 #-2147483648", OK, 0, "9 #-2147483648 #2147483647");
        Check.reduces(none, "9 11 0 0 4 3", OK, 0, "9 4 3 11 0 0");
        Check.reduces(none, "9 7 1 0 7 0 1", OK, 0, "9 7 0 1 7 1 0");
        Check.reduces(none, "9 7 0 1 7 0 0", OK, 0, "9 7 0 0 7 0 1");
        Check.reduces(none, "9 7 0 #5 7 0 #-5", OK, 0, "9 7 0 #-5 7 0 #5");
        Check.reduces(none, "9 4 5 0 4 4 0", OK, 0, "9 4 4 0 4 5 0");
        Check.reduces(none, "9 9 3 2 9 1 0", OK, 0, "9 9 0 1 9 2 3");
        Check.reduces(none, "9 1 1", OK, 0, "9 1 1");
        Check.reduces(none, "7 1 0", OK, 0, "7 1 0");
        // The arguments are exchanged before rules are tried, and by their normal forms.
        RewritingDesk sorted = Check.deskWith("9 x0 x1 7 x0 x1", "0 3");
        Check.reduces(sorted, "9 2 1", OK, 1, "7 1 2");
        Check.reduces(sorted, "9 0 1", OK, 2, "7 1 3");
        Check.reduces(sorted, "9 3 10 #1 #1", OK, 2, "7 #2 3");
    }

    private static void promise6Wholes() {
        RewritingDesk desk = Check.deskWith("4 w0 10 w0 #1", "7 w0 w0 0", "8 w1 x1 7 x1 w1");
        Check.reduces(desk, "4 #-1", OK, 2, "#0");
        Check.reduces(desk, "4 0", OK, 0, "4 0");
        Check.reduces(desk, "4 4 #5", OK, 4, "#7");
        Check.reduces(desk, "7 #3 #3", OK, 1, "0");
        Check.reduces(desk, "7 #3 #4", OK, 0, "7 #3 #4");
        Check.reduces(desk, "7 0 0", OK, 0, "7 0 0");
        Check.reduces(desk, "8 #3 1", OK, 1, "7 1 #3");
        Check.reduces(desk, "8 #3 #3", OK, 2, "0");
        RewritingDesk number = Check.deskWith("4 #-1 0", "5 x0 6 #-1");
        Check.reduces(number, "4 #-1", OK, 1, "0");
        Check.reduces(number, "4 #1", OK, 0, "4 #1");
        Check.reduces(number, "5 1", OK, 1, "6 #-1");
    }

    private static void promise6Long() {
        RewritingDesk down = Check.deskWith("4 #0 0", "4 w0 4 10 w0 #-1");
        Check.reduces(down, "4 #29", OK, 59, "0");
        Check.reduces(down, "4 #30", LONG, 61, "");
        RewritingDesk even = Check.deskWith("4 #0 0", "4 w0 4 10 w0 #-1", "0 1");
        Check.reduces(even, "4 #29", OK, 60, "1");
        Check.reduces(even, "7 4 #29 0", LONG, 61, "");
        // The sum is step 61.
        Check.reduces(even, "7 4 #29 10 #1 #1", LONG, 61, "");
        RewritingDesk deep = Check.deskWith("2 4 2");
        Check.reduces(deep, "2", LONG, 61, "");
        RewritingDesk same = Check.deskWith("2 2");
        Check.reduces(same, "2", LONG, 61, "");
        Check.reduces(same, "7 1 2", LONG, 61, "");
    }

    private static void promise6LargeInstance() {
        RewritingDesk twice = Check.deskWith("5 x0 7 x0 x0", "8 x0 x1 4 7 x0 x0", "4 4 x0 4 4 7 x0 x0");
        Check.reduces(twice, "5 " + SIZE_14, OK, 1, "7 " + SIZE_14 + " " + SIZE_14);
        Check.reduces(twice, "5 6 " + SIZE_14, LARGE, 1, "");
        Check.reduces(twice, "8 " + SIZE_14 + " 0", OK, 1, "4 7 " + SIZE_14 + " " + SIZE_14);
        Check.reduces(twice, "4 4 " + SIZE_14, LARGE, 1, "");
        // An instance too large in step 60 is LARGE; in step 61 it is LONG.
        RewritingDesk late = Check.deskWith("4 #0 0", "4 w0 4 10 w0 #-1", "5 x0 7 x0 x0");
        Check.reduces(late, "7 4 #29 5 6 " + SIZE_14, LARGE, 60, "");
        late.wipe();
        Check.put(late, "0 1");
        Check.due("rule 3", late.rule(3), OK);
        Check.reduces(late, "7 4 #29 5 6 " + SIZE_14, LONG, 61, "");
    }

    private static void promise6LargeArguments() {
        RewritingDesk grown = Check.deskWith("0 " + SIZE_14, "1 6 " + SIZE_14, "2 2", "8 x0 x1 #0");
        Check.reduces(grown, "4 7 0 0", OK, 2, "4 7 " + SIZE_14 + " " + SIZE_14);
        Check.reduces(grown, "4 4 7 0 0", LARGE, 2, "");
        Check.reduces(grown, "7 1 1", LARGE, 2, "");
        Check.reduces(grown, "7 0 1", OK, 2, "7 " + SIZE_14 + " 6 " + SIZE_14);
        // The SIZE is looked at before a rule could make the term small again.
        Check.reduces(grown, "8 0 1", OK, 3, "#0");
        Check.reduces(grown, "8 1 1", LARGE, 2, "");
        // First argument first, and both before their term's SIZE is looked at.
        Check.reduces(grown, "7 7 1 1 2", LARGE, 2, "");
        Check.reduces(grown, "7 2 7 1 1", LONG, 61, "");
        RewritingDesk wide = Check.deskWith("0 " + Check.repeated("6", 28) + " 3", "2 2", "1 3");
        Check.reduces(wide, "7 0 2", LONG, 61, "");
        Check.reduces(wide, "7 0 1", LARGE, 2, "");
        Check.reduces(wide, "4 0", OK, 1, "4 " + Check.repeated("6", 28) + " 3");
        // What stands around a term doesn't count to its SIZE.
        Check.reduces(Check.deskWith("0 4 0"), "0", LONG, 61, "");
        // Many arguments in line, each of them grown.
        Check.reduces(grown, "7 1 7 1 7 1 7 1 7 1 7 1 7 1 7 1 7 1 7 1 7 1 7 1 7 1 7 1 3", LARGE, 14, "");
    }

    private static void promise6NoResult() {
        RewritingDesk desk = Check.deskWith("2 2", "5 x0 7 x0 x0");
        Check.reduces(desk, "3", OK, 0, "3");
        Check.reduces(desk, "2", LONG, 61, "");
        Check.due("at after LONG", desk.at(0), -1);
        Check.reduces(desk, "3", OK, 0, "3");
        Check.reduces(desk, "5 6 " + SIZE_14, LARGE, 1, "");
        Check.reduces(desk, "3", OK, 0, "3");
        Check.put(desk, "3");
        Check.due("reduce of two terms", desk.reduce(), RewritingDesk.SYNTAX);
        Check.due("size after SYNTAX", desk.size(), 0);
        Check.due("the draft stays", desk.wipe(), 2);
        Check.put(desk, "3");
        Check.due("reduce", desk.reduce(), OK);
        Check.due("the draft stays", desk.wipe(), 1);
    }

    private static void compares(RewritingDesk desk, String terms, int answer, int steps) {
        desk.wipe();
        Check.put(desk, "3");
        Check.due("reduce of 3", desk.reduce(), OK);
        desk.wipe();
        Check.put(desk, terms);
        Check.due("equal of " + terms, desk.equal(), answer);
        Check.due("steps of " + terms, desk.steps(), steps);
        Check.due("size after equal of " + terms, desk.size(), 0);
        Check.due("at after equal of " + terms, desk.at(0), -1);
    }

    private static void promise7Equal() {
        RewritingDesk desk = Check.deskWith("4 #0 0", "4 w0 4 10 w0 #-1", "5 x0 7 x0 x0", "2 2");
        compares(desk, "9 0 1 9 1 0", 1, 0);
        compares(desk, "7 0 1 7 1 0", 0, 0);
        compares(desk, "7 0 1 7 0 3", 0, 0);
        compares(desk, "#3 10 #1 #2", 1, 1);
        compares(desk, "4 0 4 4 0", 0, 0);
        compares(desk, "4 #1 4 #2", 1, 8);
        compares(desk, "4 #14 4 #15", 1, 60);
        compares(desk, "4 #15 4 #15", -LONG, 61);
        compares(desk, "2 0", -LONG, 61);
        compares(desk, "0 2", -LONG, 61);
        compares(desk, "5 6 " + SIZE_14 + " 0", -LARGE, 1);
        compares(desk, "4 #1 5 6 " + SIZE_14, -LARGE, 4);
        Check.due("the draft stays", desk.wipe(), 18);
        Check.reduces(desk, "3", OK, 0, "3");
        desk.wipe();
        Check.put(desk, "#1 10 #0 #1");
        Check.due("equal for the first time", desk.equal(), 1);
        Check.due("equal for the second time", desk.equal(), 1);
        Check.due("each equal begins with no steps", desk.steps(), 1);
        Check.reduces(desk, "3", OK, 0, "3");
        Check.due("equal of one term", desk.equal(), -RewritingDesk.SYNTAX);
        Check.due("size after SYNTAX of equal", desk.size(), 0);
        Check.due("the draft stays", desk.wipe(), 1);
    }

    private static void promise9Steps() {
        RewritingDesk desk = Check.deskWith("0 1");
        Check.reduces(desk, "7 0 0", OK, 2, "7 1 1");
        desk.wipe();
        Check.due("reduce of nothing", desk.reduce(), RewritingDesk.SYNTAX);
        Check.due("steps after SYNTAX", desk.steps(), 2);
        Check.due("equal of nothing", desk.equal(), -RewritingDesk.SYNTAX);
        Check.due("steps after -SYNTAX", desk.steps(), 2);
        Check.due("pairs", desk.pairs(0), 0);
        Check.due("matching", desk.matching(), RewritingDesk.BAD);
        Check.due("steps after pairs and matching", desk.steps(), 2);
        Check.reduces(desk, "1", OK, 0, "1");
    }

    private static void promise10And11Result() {
        RewritingDesk desk = new RewritingDesk();
        Check.reduces(desk, "10 11 #-1 #1 3", OK, 1, "10 #-1 3");
        Check.due("size", desk.size(), 3);
        Check.due("at 0", desk.at(0), 10);
        Check.due("at 1", desk.at(1), 4294967296L + 4294967295L);
        Check.due("at 2", desk.at(2), 3);
        Check.due("at 3", desk.at(3), -1);
        Check.due("at -1", desk.at(-1), -1);
        Check.due("at the least int", desk.at(Integer.MIN_VALUE), -1);
        Check.due("at the greatest int", desk.at(Integer.MAX_VALUE), -1);
        Check.reduces(desk, "#2147483647", OK, 0, "#2147483647");
        Check.due("at of the greatest number", desk.at(0), 4294967296L + 2147483647L);
        Check.reduces(desk, "#-2147483648", OK, 0, "#-2147483648");
        Check.due("at of the least number", desk.at(0), 4294967296L + 2147483648L);
        Check.due("wipe", desk.wipe(), 1);
        Check.due("the result stays", desk.size(), 1);
    }

    private static void matching(RewritingDesk desk, String draft, int answer) {
        desk.wipe();
        Check.put(desk, draft);
        Check.due("matching of " + draft, desk.matching(), answer);
        Check.due("place after matching", desk.place(), -1);
    }

    private static void promise12Matching() {
        RewritingDesk desk = Check.deskWith("7 #3 x0 0", "9 #1 x0 x0", "10 x0 x1 0", "7 x0 x0 0",
            "8 w0 w0 0", "4 x0 0", "3 0", "4 0 0");
        matching(desk, "7 #3 #3", 0);
        matching(desk, "7 10 #1 #2 0", RewritingDesk.NONE);
        matching(desk, "9 0 #1", 1);
        matching(desk, "9 #1 0", 1);
        matching(desk, "9 #2 0", RewritingDesk.NONE);
        matching(desk, "10 #1 #2", 2);
        matching(desk, "7 9 0 1 9 0 1", 3);
        matching(desk, "7 9 0 1 9 1 0", RewritingDesk.NONE);
        matching(desk, "8 #4 #4", 4);
        matching(desk, "8 #4 #5", RewritingDesk.NONE);
        matching(desk, "8 0 0", RewritingDesk.NONE);
        matching(desk, "4 0", 5);
        matching(desk, "3", 6);
        matching(desk, "#3", RewritingDesk.NONE);
        matching(desk, "5 4 0", RewritingDesk.NONE);
        matching(desk, "", RewritingDesk.BAD);
        matching(desk, "4", RewritingDesk.BAD);
        matching(desk, "4 x0", RewritingDesk.BAD);
        matching(desk, "4 w0", RewritingDesk.BAD);
        matching(desk, "3 3", RewritingDesk.BAD);
        Check.due("the draft stays", desk.wipe(), 2);
        Check.due("drop", desk.drop(5), true);
        matching(desk, "4 0", 7);
        matching(desk, "4 1", RewritingDesk.NONE);
    }

    private static void promise12Ways() {
        // Without exchange where that will do.
        Check.reduces(Check.deskWith("9 x0 x1 7 x0 x1"), "9 1 0", OK, 1, "7 0 1");
        Check.reduces(Check.deskWith("9 x0 w0 7 x0 w0"), "9 #1 #2", OK, 1, "7 #1 #2");
        Check.reduces(Check.deskWith("9 x0 w0 7 x0 w0"), "9 0 #2", OK, 1, "7 0 #2");
        // Exchanging at the second symbol 9 comes before exchanging at the first.
        Check.reduces(Check.deskWith("7 9 x0 x1 9 x1 x2 8 8 x0 x1 x2"), "7 9 0 1 9 0 1", OK, 1, "8 8 0 1 0");
        Check.reduces(Check.deskWith("7 9 x0 x1 9 x1 x2 8 8 x0 x1 x2"), "7 9 0 1 9 0 2", OK, 1, "8 8 1 0 2");
        Check.reduces(Check.deskWith("7 9 x0 x1 9 x1 x2 8 8 x0 x1 x2"), "7 9 0 1 9 2 3", OK, 0, "7 9 0 1 9 2 3");
        // One symbol 9 inside another: its place in LEFT counts, not where the exchange brings it.
        Check.reduces(Check.deskWith("9 9 x0 x1 x2 8 8 x0 x1 x2"), "9 3 9 1 2", OK, 1, "8 8 1 2 3");
        Check.reduces(Check.deskWith("9 9 4 x0 x1 9 x2 5 x3 8 8 x0 x1 8 x2 x3"),
            "9 9 5 1 2 9 3 4 0", OK, 1, "8 8 0 3 8 2 1");
        // Four symbols 9, all of them exchanged.
        RewritingDesk four = Check.deskWith("9 9 9 9 x0 #1 #2 #3 #4 x0");
        matching(four, "9 #4 9 #3 9 #2 9 #1 0", 0);
        matching(four, "9 9 #3 9 9 0 #1 #2 #4", 0);
        matching(four, "9 #4 9 #3 9 #1 9 #2 0", RewritingDesk.NONE);
    }
}
