/** The same calls on the class and on the model: all promises, with inputs nobody chose. */
public final class ModelTest {
    private static final int RUNS = 3000;
    private static final int CALLS = 512;

    /** Rules that work together, so that normal forms grow and take many steps. */
    private static final String[] WORKING = {"7 0 x0 x0", "7 4 x0 x1 4 7 x0 x1", "8 0 x0 0",
        "8 4 x0 x1 7 8 x0 x1 x1", "5 x0 7 x0 x0", "6 x0 8 x0 x0", "5 w0 10 w0 w0", "4 w0 10 w0 #1",
        "8 x0 7 x1 x2 7 8 x0 x1 8 x0 x2", "8 7 x0 x1 x2 7 8 x0 x2 8 x1 x2", "9 #0 x0 x0",
        "9 x0 9 x1 x2 7 x0 7 x1 x2", "9 x0 x0 x0", "9 4 x0 5 x0 x0", "7 7 x0 x1 x2 7 x0 7 x1 x2",
        "5 5 x0 x0", "6 4 x0 4 4 6 x0", "6 0 0", "9 9 x0 x1 9 x1 x2 11 x0 x2", "10 x0 w0 9 w0 x0",
        "1 4 4 4 4 0", "2 7 1 1", "3 8 2 2", "5 #0 1", "5 w0 7 w0 5 10 w0 #-1", "4 4 x0 5 x0",
        "7 x0 x0 4 x0", "8 x0 x1 9 x1 x0", "7 x0 8 x1 x2 8 7 x0 x1 x2", "9 4 x0 x1 4 9 x0 x1",
        "7 x0 0 x0", "7 x0 4 x1 4 7 x0 x1", "4 7 x0 x1 7 4 x1 4 x0", "6 x0 7 7 x0 x0 7 x0 x0"};

    private final RewritingDesk desk = new RewritingDesk();
    private final ModelDesk model = new ModelDesk();
    private final int run;
    private final int style;
    private long seed;
    private int calls;
    private int nines;
    /** In the climbing styles: the least symbol that may be put, so that rules come to an end. */
    private int least;
    private int top;

    private ModelTest(int run) {
        this.run = run;
        this.style = run % 12;
        this.seed = run * 7919L + 12345;
    }

    public static void main(String[] args) {
        int runs = args.length > 0 ? Integer.parseInt(args[0]) : RUNS;
        for (int run = 0; run < runs; run++) {
            ModelTest test = new ModelTest(run);
            while (test.calls < CALLS - 90) {
                test.act();
            }
        }
        Check.end("ModelTest");
    }

    /** A fixed row of numbers that looks mixed, below the bound. */
    private int mixed(int bound) {
        seed = seed * 6364136223846793005L + 1442695040888963407L;
        return (int) ((seed >>> 33) % bound);
    }

    private void same(String call, long got, long want) {
        calls++;
        Check.due("run " + run + ", call " + calls + ": " + call, got, want);
    }

    private void token(int kind, int value) {
        boolean got = desk.token(kind, value);
        same("token(" + kind + ", " + value + ")", got ? 1 : 0, model.token(kind, value) ? 1 : 0);
    }

    private void act() {
        switch (mixed(12)) {
            case 0, 1, 2, 3 -> makeRule();
            case 4, 5, 6 -> reduceTerm();
            case 7 -> compareTerms();
            case 8, 9 -> lookAtPairs();
            case 10 -> {
                int r = mixed(12) - 2;
                same("drop(" + r + ")", desk.drop(r) ? 1 : 0, model.drop(r) ? 1 : 0);
            }
            default -> spoilDraft();
        }
    }

    private int symbol() {
        return switch (style) {
            case 0 -> new int[] {0, 1, 4, 5, 7, 8}[mixed(6)];
            case 1 -> new int[] {0, 1, 2, 4, 9, 9, 7}[mixed(7)];
            case 2 -> new int[] {0, 4, 5, 10, 11, 9}[mixed(6)];
            case 3 -> new int[] {0, 1, 4, 7, 7, 7}[mixed(6)];
            case 4 -> new int[] {0, 7, 8, 8, 9, 4}[mixed(6)];
            case 5 -> mixed(12);
            case 6 -> least + mixed(12 - least);
            case 8, 9, 10, 11 -> 4 + mixed(6);
            default -> {
                int limit = least < 9 ? 9 : 12;
                yield least + mixed(limit - least);
            }
        };
    }

    private void putLeaf(int names) {
        int choice = mixed(8);
        boolean plain = style == 0 || style == 3 || style == 7;
        if (choice < 5 && names > 0) {
            boolean whole = !plain && mixed(6) == 0;
            token(whole ? 3 : 2, mixed(names));
        } else if (!plain && (choice == 5 || least > 3)) {
            token(1, mixed(5) == 0 ? mixed(1 << 30) * 4 : mixed(4) - 1);
        } else if (least > 3) {
            token(names > 0 ? 2 : 0, names > 0 ? mixed(names) : 3);
        } else {
            token(0, least + mixed(style >= 5 ? 4 - least : 2));
        }
    }

    /** Puts a term of about the given size; names says how many variables it may have. */
    private void putTerm(int size, int names, boolean isRoot) {
        if (size <= 1 && !isRoot) {
            putLeaf(names);
            return;
        }
        int head = symbol();
        top = isRoot ? head : top;
        nines += head == 9 ? 1 : 0;
        if (head == 9 && names > 0 && nines > 4 && mixed(4) > 0) {
            head = 7;
        }
        token(0, head);
        if (head >= 7) {
            int first = 1 + mixed(size > 2 ? size - 1 : 1);
            putTerm(first, names, false);
            putTerm(size - 1 - first, names, false);
        } else if (head >= 4) {
            putTerm(size - 1, names, false);
        }
    }

    private void makeRule() {
        same("wipe()", desk.wipe(), model.wipe());
        if (style >= 8) {
            putWorkingRule();
            return;
        }
        nines = 0;
        int names = 1 + mixed(4);
        putTerm(1 + mixed(mixed(4) == 0 ? 16 : 7), names, true);
        nines = 0;
        least = style >= 6 && top < 11 ? top + 1 : 0;
        putTerm(1 + mixed(mixed(4) == 0 ? 14 : 6), mixed(5) == 0 ? 0 : 1 + mixed(names), false);
        least = 0;
        if (mixed(12) == 0) {
            token(mixed(4), mixed(4));
        }
        int r = mixed(20) == 0 ? mixed(20) - 10 : mixed(mixed(2) == 0 ? 3 : 8);
        same("rule(" + r + ")", desk.rule(r), model.rule(r));
        same("place()", desk.place(), model.place());
    }

    private void putWorkingRule() {
        for (String word : WORKING[mixed(WORKING.length)].split(" ")) {
            token(Check.kindOf(word), Check.valueOf(word));
        }
        int r = mixed(8);
        same("rule(" + r + ")", desk.rule(r), model.rule(r));
    }

    private void lookAtResult() {
        same("steps()", desk.steps(), model.steps());
        same("place()", desk.place(), model.place());
        same("size()", desk.size(), model.size());
        for (int k = -1; k <= model.size(); k++) {
            same("at(" + k + ")", desk.at(k), model.at(k));
        }
    }

    private void reduceTerm() {
        same("wipe()", desk.wipe(), model.wipe());
        putTerm(1 + mixed(mixed(3) == 0 ? 25 : 9), mixed(20) == 0 ? 1 : 0, false);
        same("matching()", desk.matching(), model.matching());
        same("reduce()", desk.reduce(), model.reduce());
        lookAtResult();
    }

    private void compareTerms() {
        same("wipe()", desk.wipe(), model.wipe());
        putTerm(1 + mixed(9), mixed(20) == 0 ? 1 : 0, false);
        putTerm(1 + mixed(9), mixed(20) == 0 ? 1 : 0, false);
        same("equal()", desk.equal(), model.equal());
        lookAtResult();
    }

    private void lookAtPairs() {
        for (int what = -1; what <= 4; what++) {
            same("pairs(" + what + ")", desk.pairs(what), model.pairs(what));
        }
        for (int what = -1; what <= 3; what++) {
            same("open(" + what + ")", desk.open(what), model.open(what));
        }
    }

    private void spoilDraft() {
        for (int n = mixed(6); n > 0; n--) {
            token(mixed(6) - 1, mixed(16) - 2);
        }
        switch (mixed(4)) {
            case 0 -> same("reduce()", desk.reduce(), model.reduce());
            case 1 -> same("equal()", desk.equal(), model.equal());
            case 2 -> same("matching()", desk.matching(), model.matching());
            default -> same("wipe()", desk.wipe(), model.wipe());
        }
        lookAtResult();
    }
}
