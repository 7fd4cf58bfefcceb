import java.util.ArrayList;
import java.util.List;
import java.util.function.Consumer;
import java.util.function.Supplier;

/**
 * Tells whether a call changes a desk. A desk can't be copied, so each look is at a new one that was
 * brought to the same state: once with the call and once without it.
 */
final class Watch {
    private static final String[] TERMS = {"0", "1", "4 0", "5 #3", "7 0 1", "7 1 1", "9 2 1", "9 0 #1", "10 #1 #2"};
    private static final List<Consumer<Look>> LOOKS = List.of(Look::draft, Look::asTerm, Look::asTwoTerms,
        Look::asRule, Look::rules);

    private Watch() {
    }

    /** The answers of one desk to what is asked of it. */
    private static final class Look {
        private final RewritingDesk desk;
        private final List<String> answers = new ArrayList<>();

        Look(RewritingDesk desk) {
            this.desk = desk;
        }

        void note(String call, Object answer) {
            answers.add(call + " " + answer);
        }

        void atAGlance() {
            note("place", desk.place());
            note("steps", desk.steps());
            note("size", desk.size());
            for (int k = -1; k <= 30; k++) {
                note("at " + k, desk.at(k));
            }
            note("matching", desk.matching());
            for (int what = 0; what <= 3; what++) {
                note("pairs " + what, desk.pairs(what));
            }
            for (int what = 0; what <= 2; what++) {
                note("open " + what, desk.open(what));
            }
        }

        void draft() {
            note("wipe", desk.wipe());
        }

        void asTerm() {
            note("reduce", desk.reduce());
            atAGlance();
            note("wipe", desk.wipe());
        }

        void asTwoTerms() {
            note("equal", desk.equal());
            atAGlance();
            note("wipe", desk.wipe());
        }

        void asRule() {
            note("rule 7", desk.rule(7));
            atAGlance();
            rules();
        }

        void rules() {
            for (String term : TERMS) {
                desk.wipe();
                Check.put(desk, term);
                note("reduce of " + term, desk.reduce());
                note("result of " + term, Check.result(desk));
            }
            for (int r = 0; r <= 7; r++) {
                note("drop " + r, desk.drop(r));
            }
        }
    }

    private static List<String> answers(RewritingDesk desk, Consumer<Look> ask) {
        Look look = new Look(desk);
        look.atAGlance();
        ask.accept(look);
        return look.answers;
    }

    /** Makes the call on desks in the given state; it must leave them as they were. */
    static void unchanged(String about, Supplier<RewritingDesk> state, Consumer<RewritingDesk> call) {
        for (Consumer<Look> ask : LOOKS) {
            RewritingDesk called = state.get();
            call.accept(called);
            List<String> after = answers(called, ask);
            List<String> before = answers(state.get(), ask);
            for (int k = 0; k < before.size(); k++) {
                Check.due("after " + about + ": " + k, after.get(k), before.get(k));
            }
        }
    }
}
