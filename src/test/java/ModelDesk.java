import java.util.ArrayList;
import java.util.HashMap;
import java.util.List;
import java.util.Map;

/** The document told a second time, with objects, recursion and exceptions, to compare with. */
final class ModelDesk {
    /** A token with its arguments; kind 2 is also a variable left in a critical pair. */
    record Term(int kind, int value, List<Term> args) {
        int size() {
            int size = 1;
            for (Term arg : args) {
                size += arg.size();
            }
            return size;
        }

        void flatten(List<Term> into) {
            into.add(this);
            for (Term arg : args) {
                arg.flatten(into);
            }
        }

        List<Term> parts() {
            List<Term> parts = new ArrayList<>();
            flatten(parts);
            return parts;
        }

        boolean isName() {
            return kind >= 2;
        }

        String name() {
            return kind + ":" + value;
        }
    }

    record Rule(Term left, Term right) {
    }

    record Pair(int i, int j, int p, String verdict) {
    }

    private static final class Fault extends RuntimeException {
        private static final long serialVersionUID = 1L;
        private final int place;

        Fault(int place) {
            this.place = place;
        }
    }

    private static final class End extends RuntimeException {
        private static final long serialVersionUID = 1L;
        private final int code;

        End(int code) {
            this.code = code;
        }
    }

    private final List<Term> draft = new ArrayList<>();
    private final Rule[] rules = new Rule[8];
    private Term result;
    private int place = -1;
    private int steps;
    private int counted;
    private int reading;

    private static int arity(int kind, int value) {
        return kind != 0 || value < 4 ? 0 : value < 7 ? 1 : 2;
    }

    boolean token(int kind, int value) {
        boolean known = switch (kind) {
            case 0 -> value >= 0 && value <= 11;
            case 1 -> true;
            case 2, 3 -> value >= 0 && value <= 3;
            default -> false;
        };
        if (!known || draft.size() == 30) {
            return false;
        }
        draft.add(new Term(kind, value, List.of()));
        return true;
    }

    int wipe() {
        int size = draft.size();
        draft.clear();
        return size;
    }

    /** What the next token must be for a term to go on. */
    private interface Guard {
        boolean allows(int place, Term token);
    }

    private Term readTerm(Guard guard) {
        if (reading == draft.size() || !guard.allows(reading, draft.get(reading))) {
            throw new Fault(reading);
        }
        Term token = draft.get(reading);
        reading++;
        List<Term> args = new ArrayList<>();
        for (int a = 0; a < arity(token.kind, token.value); a++) {
            args.add(readTerm(guard));
        }
        return new Term(token.kind, token.value, args);
    }

    private List<Term> readTerms(int count) {
        reading = 0;
        List<Term> terms = new ArrayList<>();
        for (int t = 0; t < count; t++) {
            terms.add(readTerm((k, token) -> !token.isName()));
        }
        if (reading < draft.size()) {
            throw new Fault(reading);
        }
        return terms;
    }

    private static boolean isNine(Term token) {
        return token.kind == 0 && token.value == 9;
    }

    private Rule readRule() {
        reading = 0;
        int[] nines = {0};
        Term left = readTerm((k, token) -> {
            nines[0] += isNine(token) ? 1 : 0;
            return nines[0] <= 4 && (k > 0 || token.kind == 0);
        });
        List<String> names = new ArrayList<>();
        for (Term part : left.parts()) {
            names.add(part.name());
        }
        Term right = readTerm((k, token) -> !token.isName() || names.contains(token.name()));
        if (reading < draft.size()) {
            throw new Fault(reading);
        }
        return new Rule(left, right);
    }

    int rule(int r) {
        if (r < 0 || r > 7) {
            return RewritingDesk.BAD;
        }
        try {
            rules[r] = readRule();
            return RewritingDesk.OK;
        } catch (Fault fault) {
            place = fault.place;
            return RewritingDesk.SYNTAX;
        } finally {
            draft.clear();
        }
    }

    boolean drop(int r) {
        if (r < 0 || r > 7 || rules[r] == null) {
            return false;
        }
        rules[r] = null;
        return true;
    }

    int reduce() {
        result = null;
        try {
            Term term = readTerms(1).get(0);
            counted = 0;
            try {
                result = normalForm(term);
                return RewritingDesk.OK;
            } finally {
                steps = counted;
            }
        } catch (Fault fault) {
            place = fault.place;
            return RewritingDesk.SYNTAX;
        } catch (End end) {
            return end.code;
        }
    }

    int equal() {
        result = null;
        try {
            List<Term> terms = readTerms(2);
            counted = 0;
            try {
                Term first = normalForm(terms.get(0));
                return first.equals(normalForm(terms.get(1))) ? 1 : 0;
            } finally {
                steps = counted;
            }
        } catch (Fault fault) {
            place = fault.place;
            return -RewritingDesk.SYNTAX;
        } catch (End end) {
            return -end.code;
        }
    }

    int place() {
        return place;
    }

    int steps() {
        return steps;
    }

    int size() {
        return result == null ? 0 : result.size();
    }

    long at(int k) {
        if (k < 0 || k >= size()) {
            return -1;
        }
        Term part = result.parts().get(k);
        return part.kind * 4294967296L + Integer.toUnsignedLong(part.value);
    }

    int matching() {
        try {
            Term term = readTerms(1).get(0);
            for (int r = 0; r < 8; r++) {
                if (rules[r] != null && match(rules[r].left, term) != null) {
                    return r;
                }
            }
            return RewritingDesk.NONE;
        } catch (Fault fault) {
            return RewritingDesk.BAD;
        }
    }

    int pairs(int what) {
        if (what < 0 || what > 3) {
            return RewritingDesk.BAD;
        }
        String[] verdicts = {"", "JOINED", "OPEN", "UNKNOWN"};
        int count = 0;
        for (Pair pair : criticalPairs()) {
            count += what == 0 || pair.verdict.equals(verdicts[what]) ? 1 : 0;
        }
        return count;
    }

    int open(int what) {
        if (what < 0 || what > 2) {
            return RewritingDesk.BAD;
        }
        for (Pair pair : criticalPairs()) {
            if (pair.verdict.equals("OPEN")) {
                return what == 0 ? pair.i : what == 1 ? pair.j : pair.p;
            }
        }
        return RewritingDesk.NONE;
    }

    // ---- Matching: all ways are tried, and of those that match the one that counts is chosen.

    private static Map<String, Term> match(Term left, Term term) {
        List<Integer> nines = new ArrayList<>();
        List<Term> parts = left.parts();
        for (int k = 0; k < parts.size(); k++) {
            if (isNine(parts.get(k))) {
                nines.add(k);
            }
        }
        Map<String, Term> best = null;
        List<Integer> bestWay = null;
        for (int subset = 0; subset < 1 << nines.size(); subset++) {
            List<Integer> way = new ArrayList<>();
            for (int q = 0; q < nines.size(); q++) {
                if ((subset >> q & 1) == 1) {
                    way.add(nines.get(q));
                }
            }
            Map<String, Term> bound = new HashMap<>();
            if (matchAt(left, 0, term, way, bound) && (best == null || comesBefore(way, bestWay))) {
                best = bound;
                bestWay = way;
            }
        }
        return best;
    }

    private static boolean comesBefore(List<Integer> way, List<Integer> other) {
        for (int k = 0; k < 30; k++) {
            if (way.contains(k) != other.contains(k)) {
                return other.contains(k);
            }
        }
        return false;
    }

    private static boolean matchAt(Term left, int at, Term term, List<Integer> way, Map<String, Term> bound) {
        if (left.isName()) {
            Term before = bound.putIfAbsent(left.name(), term);
            return (left.kind == 2 || term.kind == 1) && (before == null || before.equals(term));
        }
        if (left.kind != term.kind || left.value != term.value) {
            return false;
        }
        int place = at + 1;
        for (int a = 0; a < left.args.size(); a++) {
            int taken = way.contains(at) ? 1 - a : a;
            if (!matchAt(left.args.get(a), place, term.args.get(taken), way, bound)) {
                return false;
            }
            place += left.args.get(a).size();
        }
        return true;
    }

    private static Term instance(Term right, Map<String, Term> bound) {
        if (right.isName() && bound.containsKey(right.name())) {
            return bound.get(right.name());
        }
        List<Term> args = new ArrayList<>();
        for (Term arg : right.args) {
            args.add(instance(arg, bound));
        }
        return new Term(right.kind, right.value, args);
    }

    // ---- The normal form

    private void step() {
        counted++;
        if (counted > 60) {
            throw new End(RewritingDesk.LONG);
        }
    }

    private static int rankOf(Term term) {
        return term.kind == 1 ? 0 : term.kind == 0 ? 1 : 2;
    }

    private static int order(Term one, Term other) {
        if (rankOf(one) != rankOf(other)) {
            return Integer.compare(rankOf(one), rankOf(other));
        }
        if (one.value != other.value) {
            return Integer.compare(one.value, other.value);
        }
        for (int a = 0; a < one.args.size(); a++) {
            int order = order(one.args.get(a), other.args.get(a));
            if (order != 0) {
                return order;
            }
        }
        return 0;
    }

    private Term normalForm(Term term) {
        if (term.kind != 0) {
            return term;
        }
        List<Term> args = new ArrayList<>();
        for (Term arg : term.args) {
            args.add(normalForm(arg));
        }
        if (isNine(term) && order(args.get(1), args.get(0)) < 0) {
            args = List.of(args.get(1), args.get(0));
        }
        Term replaced = new Term(term.kind, term.value, args);
        if (replaced.size() > 30) {
            throw new End(RewritingDesk.LARGE);
        }
        if (term.value >= 10 && args.get(0).kind == 1 && args.get(1).kind == 1) {
            step();
            int one = args.get(0).value;
            int other = args.get(1).value;
            return new Term(1, term.value == 10 ? one + other : one * other, List.of());
        }
        for (Rule rule : rules) {
            Map<String, Term> bound = rule == null ? null : match(rule.left, replaced);
            if (bound != null) {
                step();
                Term instance = instance(rule.right, bound);
                if (instance.size() > 30) {
                    throw new End(RewritingDesk.LARGE);
                }
                return normalForm(instance);
            }
        }
        return replaced;
    }

    // ---- Critical pairs: terms are put for variables at once, everywhere.

    private static boolean isPlain(Rule rule) {
        if (rule == null) {
            return false;
        }
        List<Term> parts = rule.left.parts();
        parts.addAll(rule.right.parts());
        for (Term part : parts) {
            if (part.kind == 1 || part.kind == 3 || part.kind == 0 && part.value >= 9) {
                return false;
            }
        }
        return true;
    }

    private static Term renamed(Term term, int shift) {
        List<Term> args = new ArrayList<>();
        for (Term arg : term.args) {
            args.add(renamed(arg, shift));
        }
        return new Term(term.kind, term.isName() ? term.value + shift : term.value, args);
    }

    private static boolean contains(Term term, Term name) {
        for (Term part : term.parts()) {
            if (part.equals(name)) {
                return true;
            }
        }
        return false;
    }

    /** Solves the first equation, puts what it tells into all others, and so on. */
    private static Map<String, Term> unifier(Term one, Term other) {
        List<Term[]> equations = new ArrayList<>();
        equations.add(new Term[] {one, other});
        Map<String, Term> solved = new HashMap<>();
        while (!equations.isEmpty()) {
            Term[] equation = equations.remove(0);
            Term a = equation[0].isName() ? equation[0] : equation[1];
            Term b = equation[0].isName() ? equation[1] : equation[0];
            if (a.equals(b)) {
                continue;
            }
            if (!a.isName()) {
                if (a.kind != b.kind || a.value != b.value) {
                    return null;
                }
                for (int k = 0; k < a.args.size(); k++) {
                    equations.add(new Term[] {a.args.get(k), b.args.get(k)});
                }
                continue;
            }
            if (contains(b, a)) {
                return null;
            }
            Map<String, Term> put = Map.of(a.name(), b);
            for (Term[] rest : equations) {
                rest[0] = instance(rest[0], put);
                rest[1] = instance(rest[1], put);
            }
            solved.replaceAll((name, term) -> instance(term, put));
            solved.put(a.name(), b);
        }
        return solved;
    }

    private static Term withPart(Term term, int p, Term part) {
        if (p == 0) {
            return part;
        }
        List<Term> args = new ArrayList<>();
        int at = 1;
        for (Term arg : term.args) {
            boolean inside = p >= at && p < at + arg.size();
            args.add(inside ? withPart(arg, p - at, part) : arg);
            at += arg.size();
        }
        return new Term(term.kind, term.value, args);
    }

    private String verdict(Term peak, Term first, Term other) {
        if (peak.size() > 30 || first.size() > 30 || other.size() > 30) {
            return "UNKNOWN";
        }
        Map<String, Term> symbols = new HashMap<>();
        for (Term part : peak.parts()) {
            if (part.isName()) {
                symbols.putIfAbsent(part.name(), new Term(2, 100 + symbols.size(), List.of()));
            }
        }
        try {
            counted = 0;
            Term firstForm = normalForm(instance(first, symbols));
            counted = 0;
            Term otherForm = normalForm(instance(other, symbols));
            return firstForm.equals(otherForm) ? "JOINED" : "OPEN";
        } catch (End end) {
            return "UNKNOWN";
        }
    }

    private List<Pair> criticalPairs() {
        List<Pair> pairs = new ArrayList<>();
        for (int i = 0; i < 8; i++) {
            for (int j = 0; j < 8; j++) {
                if (!isPlain(rules[i]) || !isPlain(rules[j])) {
                    continue;
                }
                Term left = rules[i].left;
                Term right = renamed(rules[j].right, 4);
                List<Term> parts = left.parts();
                for (int p = i == j ? 1 : 0; p < parts.size(); p++) {
                    if (parts.get(p).isName()) {
                        continue;
                    }
                    Map<String, Term> put = unifier(parts.get(p), renamed(rules[j].left, 4));
                    if (put != null) {
                        Term first = instance(rules[i].right, put);
                        Term other = instance(withPart(left, p, right), put);
                        pairs.add(new Pair(i, j, p, verdict(instance(left, put), first, other)));
                    }
                }
            }
        }
        return pairs;
    }
}
