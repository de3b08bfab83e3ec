import java.util.ArrayList;
import java.util.List;

/** For calls that must change nothing: every method answers after them as it did before. */
abstract class Unchanged extends Samples {
    // Each question is asked before and after, and an object is good for 512 calls.
    private static final int QUESTIONS_AT_ONCE = 200;

    private static final int[] FEW_PERMUTATIONS = {IDENTITY, SWAP_01, SWAP_23, TURN_021, TURN_ALL};

    private static final List<Call> QUESTIONS = questions();
    private static final List<List<Call>> SEQUELS = sequels();

    /** How an object is brought into a state, and what is refused only there. */
    record State(String name, List<Call> making, List<Answered> ownRefusals) {
        PermutationGroups make() {
            PermutationGroups x = new PermutationGroups();
            making.forEach(call -> call.on(x));
            return x;
        }
    }

    /** A call with the answer that is due. */
    record Answered(Call call, long answer) {
    }

    /** Makes the calls in this state, each on an object of its own and then all on one. */
    static void changeNothing(State state, List<Answered> calls) {
        for (Answered call : calls) {
            questionsAnswerAsBefore(state, List.of(call));
            sequelsAnswerAsWithout(state, List.of(call));
        }
        questionsAnswerAsBefore(state, calls);
        sequelsAnswerAsWithout(state, calls);
    }

    static List<State> states() {
        Answered noneToRemove = new Answered(Call.remove(), NONE);
        Answered sixth = new Answered(Call.add(TURN_ALL), FULL);
        Answered sixthThatIsThere = new Answered(Call.add(SWAP_01), FULL);
        Answered sixthIdentity = new Answered(Call.add(IDENTITY), FULL);
        Answered noCarrier = new Answered(Call.carrier(0, 5), NONE);
        return List.of(
            new State("no generator", List.of(), List.of(noneToRemove, noCarrier)),
            new State("no generator any more",
                List.of(Call.add(TURN_ALL), Call.add(SWAP_01), Call.remove(), Call.remove()),
                List.of(noneToRemove, noCarrier)),
            new State("the identity as generator", List.of(Call.add(IDENTITY)), List.of(noCarrier)),
            new State("one generator", List.of(Call.add(TURN_012)), List.of(noCarrier)),
            new State("one of two generators left", List.of(Call.add(SWAP_01), Call.add(TURN_ALL), Call.remove()),
                List.of(noCarrier)),
            new State("generators that were conjugated",
                List.of(Call.add(SWAP_01), Call.add(TURN_012), Call.conjugateAll(TURN_0123)), List.of(noCarrier)),
            new State("four generators", adding(SWAP_01, SWAP_23, SWAP_12, IDENTITY), List.of(noCarrier)),
            new State("five generators", adding(SWAP_01, SWAP_23, SWAP_23, TURN_012, SWAP_12),
                List.of(sixth, sixthThatIsThere, sixthIdentity, noCarrier)),
            new State("five generators of all 720 permutations", adding(ALL_SWAPS),
                List.of(sixth, sixthThatIsThere, sixthIdentity)));
    }

    private static List<Call> adding(int... generators) {
        List<Call> making = new ArrayList<>();
        for (int g : generators) {
            making.add(Call.add(g));
        }
        return making;
    }

    /** Calls of every method that only asks, the whole group by its members among them. */
    private static List<Call> questions() {
        List<Call> questions = new ArrayList<>(List.of(Call.generators(), Call.order(), Call.orbits(), Call.centre(),
            Call.commutative(), Call.normaliser()));
        for (int x = 0; x < 6; x++) {
            questions.add(Call.orbit(x));
            for (int y = 0; y < 6; y++) {
                questions.add(Call.carrier(x, y));
            }
        }
        for (int set = 0; set < 64; set++) {
            questions.add(Call.fixing(set));
            questions.add(Call.keeping(set));
            questions.add(Call.images(set));
        }
        for (int g : FEW_PERMUTATIONS) {
            questions.add(Call.inverse(g));
            questions.add(Call.commuting(g));
            for (int h : FEW_PERMUTATIONS) {
                questions.add(Call.product(g, h));
                questions.add(Call.alike(g, h));
            }
        }
        for (int g : ALL_PERMUTATIONS) {
            questions.add(Call.has(g));
        }
        return questions;
    }

    /** Runs that change the object, each to its last generator: they show all that it holds. */
    private static List<List<Call>> sequels() {
        List<Call> removeAll = List.of(Call.remove(), Call.order(), Call.remove(), Call.order(), Call.remove(),
            Call.order(), Call.remove(), Call.order(), Call.remove(), Call.order(), Call.remove(), Call.order());
        List<List<Call>> sequels = new ArrayList<>();
        for (Call first : List.of(Call.generators(), Call.add(TURN_01234), Call.conjugateAll(MIRROR))) {
            List<Call> sequel = new ArrayList<>(List.of(first, Call.order(), Call.generators(), Call.normaliser()));
            sequel.addAll(removeAll);
            sequels.add(sequel);
        }
        return sequels;
    }

    private static void questionsAnswerAsBefore(State state, List<Answered> calls) {
        for (int from = 0; from < QUESTIONS.size(); from += QUESTIONS_AT_ONCE) {
            List<Call> asked = QUESTIONS.subList(from, Math.min(from + QUESTIONS_AT_ONCE, QUESTIONS.size()));
            PermutationGroups x = state.make();
            long[] before = asked.stream().mapToLong(question -> question.on(x)).toArray();
            String where = make(x, calls);
            for (int i = 0; i < before.length; i++) {
                due(where + asked.get(i).text(), asked.get(i).on(x), before[i]);
            }
        }
    }

    private static void sequelsAnswerAsWithout(State state, List<Answered> calls) {
        for (List<Call> sequel : SEQUELS) {
            PermutationGroups x = state.make();
            PermutationGroups without = state.make();
            String where = make(x, calls);
            for (Call call : sequel) {
                due(where + call.text(), call.on(x), call.on(without));
            }
        }
    }

    private static String make(PermutationGroups x, List<Answered> calls) {
        for (Answered call : calls) {
            due(x, call.call(), call.answer());
        }
        return calls.size() == 1 ? "after " + calls.get(0).call().text() + ": " : "after all these calls: ";
    }
}
