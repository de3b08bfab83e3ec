import java.util.ArrayList;
import java.util.List;

/**
 * Terms: "A refused call answers the code named and changes nothing." Each refused call in each of
 * several states answers its code, and every method answers after it as it did before.
 */
public final class RefusedCallsTest extends Samples {
    // Each question is asked before and after, and an object is good for 512 calls.
    private static final int QUESTIONS_AT_ONCE = 200;

    private static final int[] FEW_NO_PERMUTATIONS = {
        Integer.MIN_VALUE, -1, 0, 46656 + 44790, Integer.MAX_VALUE, perm(0, 1, 2, 3, 4, 4), perm(5, 5, 3, 2, 1, 0)
    };
    private static final int[] FEW_NO_POINTS = {Integer.MIN_VALUE, -1, 6, Integer.MAX_VALUE};
    private static final int[] FEW_NO_SETS = {Integer.MIN_VALUE, -1, 64, Integer.MAX_VALUE};
    private static final int[] FEW_PERMUTATIONS = {IDENTITY, SWAP_01, SWAP_23, TURN_021, TURN_ALL};

    private static final List<Call> QUESTIONS = questions();
    private static final List<List<Call>> SEQUELS = sequels();

    /** How an object is brought into a state, and what is refused only there. */
    private record State(String name, List<Call> making, List<Refusal> ownRefusals) {
        PermutationGroups make() {
            PermutationGroups x = new PermutationGroups();
            making.forEach(call -> call.on(x));
            return x;
        }
    }

    private record Refusal(Call call, long code) {
    }

    public static void main(String[] args) {
        for (State state : states()) {
            sentence("A refused call answers the code named and changes nothing; " + state.name());
            List<Refusal> refusals = new ArrayList<>(refusedEverywhere());
            refusals.addAll(state.ownRefusals());
            for (Refusal refusal : refusals) {
                questionsAnswerAsBefore(state, List.of(refusal));
                sequelsAnswerAsWithout(state, List.of(refusal));
            }
            questionsAnswerAsBefore(state, refusals);
            sequelsAnswerAsWithout(state, refusals);
        }
        end();
    }

    private static List<State> states() {
        Refusal noneToRemove = new Refusal(Call.remove(), NONE);
        Refusal sixth = new Refusal(Call.add(TURN_ALL), FULL);
        Refusal sixthThatIsThere = new Refusal(Call.add(SWAP_01), FULL);
        Refusal sixthIdentity = new Refusal(Call.add(IDENTITY), FULL);
        Refusal noCarrier = new Refusal(Call.carrier(0, 5), NONE);
        return List.of(
            new State("no generator", List.of(), List.of(noneToRemove, noCarrier)),
            new State("no generator any more",
                List.of(Call.add(TURN_ALL), Call.add(SWAP_01), Call.remove(), Call.remove()),
                List.of(noneToRemove, noCarrier)),
            new State("the identity as generator", List.of(Call.add(IDENTITY)), List.of(noCarrier)),
            new State("one generator", List.of(Call.add(TURN_012)), List.of(noCarrier)),
            new State("one of two generators left", List.of(Call.add(SWAP_01), Call.add(TURN_ALL), Call.remove()),
                List.of(noCarrier)),
            new State("generators that were conjugated",
                List.of(Call.add(SWAP_01), Call.add(TURN_012), Call.conjugateAll(TURN_0123)), List.of(noCarrier)),
            new State("four generators", adding(SWAP_01, SWAP_23, SWAP_12, IDENTITY), List.of(noCarrier)),
            new State("five generators", adding(SWAP_01, SWAP_23, SWAP_23, TURN_012, SWAP_12),
                List.of(sixth, sixthThatIsThere, sixthIdentity, noCarrier)),
            new State("five generators of all 720 permutations", adding(ALL_SWAPS),
                List.of(sixth, sixthThatIsThere, sixthIdentity)));
    }

    private static List<Call> adding(int... generators) {
        List<Call> making = new ArrayList<>();
        for (int g : generators) {
            making.add(Call.add(g));
        }
        return making;
    }

    private static List<Refusal> refusedEverywhere() {
        List<Refusal> refused = new ArrayList<>();
        for (int g : FEW_NO_PERMUTATIONS) {
            refused.add(new Refusal(Call.add(g), BAD_ARG));
            refused.add(new Refusal(Call.conjugateAll(g), BAD_ARG));
            refused.add(new Refusal(Call.product(g, TURN_ALL), BAD_ARG));
            refused.add(new Refusal(Call.product(TURN_ALL, g), BAD_ARG));
            refused.add(new Refusal(Call.inverse(g), BAD_ARG));
            refused.add(new Refusal(Call.has(g), 0));
            refused.add(new Refusal(Call.commuting(g), BAD_ARG));
            refused.add(new Refusal(Call.alike(g, TURN_ALL), 0));
            refused.add(new Refusal(Call.alike(TURN_ALL, g), 0));
        }
        for (int point : FEW_NO_POINTS) {
            refused.add(new Refusal(Call.orbit(point), BAD_ARG));
            refused.add(new Refusal(Call.carrier(point, 0), BAD_ARG));
            refused.add(new Refusal(Call.carrier(0, point), BAD_ARG));
        }
        for (int set : FEW_NO_SETS) {
            refused.add(new Refusal(Call.fixing(set), BAD_ARG));
            refused.add(new Refusal(Call.keeping(set), BAD_ARG));
            refused.add(new Refusal(Call.images(set), BAD_ARG));
        }
        return refused;
    }

    /** Calls of every method that only asks, the whole group by its members among them. */
    private static List<Call> questions() {
        List<Call> questions = new ArrayList<>(List.of(Call.generators(), Call.order(), Call.orbits(), Call.centre(),
            Call.commutative(), Call.normaliser()));
        for (int x = 0; x < 6; x++) {
            questions.add(Call.orbit(x));
            for (int y = 0; y < 6; y++) {
                questions.add(Call.carrier(x, y));
            }
        }
        for (int set = 0; set < 64; set++) {
            questions.add(Call.fixing(set));
            questions.add(Call.keeping(set));
            questions.add(Call.images(set));
        }
        for (int g : FEW_PERMUTATIONS) {
            questions.add(Call.inverse(g));
            questions.add(Call.commuting(g));
            for (int h : FEW_PERMUTATIONS) {
                questions.add(Call.product(g, h));
                questions.add(Call.alike(g, h));
            }
        }
        for (int g : ALL_PERMUTATIONS) {
            questions.add(Call.has(g));
        }
        return questions;
    }

    /** Runs that change the object, each to its last generator: they show all that it holds. */
    private static List<List<Call>> sequels() {
        List<Call> removeAll = List.of(Call.remove(), Call.order(), Call.remove(), Call.order(), Call.remove(),
            Call.order(), Call.remove(), Call.order(), Call.remove(), Call.order(), Call.remove(), Call.order());
        List<List<Call>> sequels = new ArrayList<>();
        for (Call first : List.of(Call.generators(), Call.add(TURN_01234), Call.conjugateAll(MIRROR))) {
            List<Call> sequel = new ArrayList<>(List.of(first, Call.order(), Call.generators(), Call.normaliser()));
            sequel.addAll(removeAll);
            sequels.add(sequel);
        }
        return sequels;
    }

    private static void questionsAnswerAsBefore(State state, List<Refusal> refusals) {
        for (int from = 0; from < QUESTIONS.size(); from += QUESTIONS_AT_ONCE) {
            List<Call> asked = QUESTIONS.subList(from, Math.min(from + QUESTIONS_AT_ONCE, QUESTIONS.size()));
            PermutationGroups x = state.make();
            long[] before = asked.stream().mapToLong(question -> question.on(x)).toArray();
            String where = refuse(x, refusals);
            for (int i = 0; i < before.length; i++) {
                due(where + asked.get(i).text(), asked.get(i).on(x), before[i]);
            }
        }
    }

    private static void sequelsAnswerAsWithout(State state, List<Refusal> refusals) {
        for (List<Call> sequel : SEQUELS) {
            PermutationGroups x = state.make();
            PermutationGroups without = state.make();
            String where = refuse(x, refusals);
            for (Call call : sequel) {
                due(where + call.text(), call.on(x), call.on(without));
            }
        }
    }

    private static String refuse(PermutationGroups x, List<Refusal> refusals) {
        for (Refusal refusal : refusals) {
            due(x, refusal.call(), refusal.code());
        }
        return refusals.size() == 1 ? "after " + refusals.get(0).call().text() + ": " : "after all refused calls: ";
    }
}
