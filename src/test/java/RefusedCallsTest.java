import java.util.ArrayList;
import java.util.List;

/**
 * Terms: "A refused call answers the code named and changes nothing." Each refused call in each of
 * several states answers its code, and every method answers after it as it did before.
 */
public final class RefusedCallsTest extends Unchanged {
    private static final int[] FEW_NO_PERMUTATIONS = {
        Integer.MIN_VALUE, -1, 0, 46656 + 44790, Integer.MAX_VALUE, perm(0, 1, 2, 3, 4, 4), perm(5, 5, 3, 2, 1, 0)
    };
    private static final int[] FEW_NO_POINTS = {Integer.MIN_VALUE, -1, 6, Integer.MAX_VALUE};
    private static final int[] FEW_NO_SETS = {Integer.MIN_VALUE, -1, 64, Integer.MAX_VALUE};

    public static void main(String[] args) {
        for (State state : states()) {
            sentence("A refused call answers the code named and changes nothing; " + state.name());
            List<Answered> refusals = new ArrayList<>(refusedEverywhere());
            refusals.addAll(state.ownRefusals());
            changeNothing(state, refusals);
        }
        end();
    }

    private static List<Answered> refusedEverywhere() {
        List<Answered> refused = new ArrayList<>();
        for (int g : FEW_NO_PERMUTATIONS) {
            refused.add(new Answered(Call.add(g), BAD_ARG));
            refused.add(new Answered(Call.conjugateAll(g), BAD_ARG));
            refused.add(new Answered(Call.product(g, TURN_ALL), BAD_ARG));
            refused.add(new Answered(Call.product(TURN_ALL, g), BAD_ARG));
            refused.add(new Answered(Call.inverse(g), BAD_ARG));
            refused.add(new Answered(Call.has(g), 0));
            refused.add(new Answered(Call.commuting(g), BAD_ARG));
            refused.add(new Answered(Call.alike(g, TURN_ALL), 0));
            refused.add(new Answered(Call.alike(TURN_ALL, g), 0));
        }
        for (int point : FEW_NO_POINTS) {
            refused.add(new Answered(Call.orbit(point), BAD_ARG));
            refused.add(new Answered(Call.carrier(point, 0), BAD_ARG));
            refused.add(new Answered(Call.carrier(0, point), BAD_ARG));
        }
        for (int set : FEW_NO_SETS) {
            refused.add(new Answered(Call.fixing(set), BAD_ARG));
            refused.add(new Answered(Call.keeping(set), BAD_ARG));
            refused.add(new Answered(Call.images(set), BAD_ARG));
        }
        return refused;
    }
}
