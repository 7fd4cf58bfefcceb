import java.util.ArrayList;
import java.util.List;

/**
 * What the tests share: a notation for tokens and the counting of wrong answers. In the notation
 * "9 #5 x0 w1" stands for symbol 9, number 5, variable 0 and whole 1.
 */
final class Check {
    private static int wrong = 0;
    private static int checked = 0;

    private Check() {
    }

    static void due(String call, long got, long want) {
        checked++;
        if (got != want) {
            wrong++;
            System.out.println(call + " answered " + got + ", due is " + want);
        }
    }

    static void due(String call, boolean got, boolean want) {
        due(call, got ? 1 : 0, want ? 1 : 0);
    }

    static void due(String call, String got, String want) {
        checked++;
        if (!got.equals(want)) {
            wrong++;
            System.out.println(call + " answered " + got + ", due is " + want);
        }
    }

    /** Ends the test, with exit code 1 if an answer was wrong. */
    static void end(String test) {
        System.out.println(test + ": " + checked + " answers looked at, " + wrong + " wrong");
        if (wrong != 0 || checked == 0) {
            System.exit(1);
        }
    }

    static int kindOf(String word) {
        return switch (word.charAt(0)) {
            case '#' -> 1;
            case 'x' -> 2;
            case 'w' -> 3;
            default -> 0;
        };
    }

    static int valueOf(String word) {
        return Integer.parseInt(kindOf(word) == 0 ? word : word.substring(1));
    }

    /** Appends the tokens of the text; every one must be taken. */
    static RewritingDesk put(RewritingDesk desk, String text) {
        for (String word : text.trim().split("\\s+")) {
            if (!word.isEmpty()) {
                due("token " + word + " of " + text, desk.token(kindOf(word), valueOf(word)), true);
            }
        }
        return desk;
    }

    /** A new desk with rules 0, 1, .. */
    static RewritingDesk deskWith(String... rules) {
        RewritingDesk desk = new RewritingDesk();
        for (int r = 0; r < rules.length; r++) {
            put(desk, rules[r]);
            due("rule " + r + ": " + rules[r], desk.rule(r), RewritingDesk.OK);
        }
        return desk;
    }

    /** The result in the notation, read by size and at. */
    static String result(RewritingDesk desk) {
        List<String> words = new ArrayList<>();
        for (int k = 0; k < desk.size(); k++) {
            long token = desk.at(k);
            String mark = switch ((int) (token >>> 32)) {
                case 0 -> "";
                case 1 -> "#";
                case 2 -> "x";
                default -> "w";
            };
            words.add(mark + (int) token);
        }
        return String.join(" ", words);
    }

    /** Wipes the draft, puts the term, and looks at what reduce, steps and the result are. */
    static void reduces(RewritingDesk desk, String term, int code, int steps, String normalForm) {
        desk.wipe();
        put(desk, term);
        due("reduce of " + term, desk.reduce(), code);
        due("steps of " + term, desk.steps(), steps);
        due("result of " + term, result(desk), normalForm);
    }

    static String repeated(String text, int times) {
        return (text + " ").repeat(times).trim();
    }
}
