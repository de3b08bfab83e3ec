import java.util.List;

/**
 * Not promised: "Nothing is promised beyond the answers and state changes described above". The
 * document describes a change for add, remove and conjugateAll only, so no other call makes one.
 */
public final class AskingTest extends Unchanged {
    public static void main(String[] args) {
        for (State state : states()) {
            sentence("Nothing is promised beyond the [..] state changes described above; " + state.name());
            // An object that has answered nothing else yet tells what is due.
            List<Answered> asking = asking().stream().map(call -> new Answered(call, call.on(state.make()))).toList();
            eachAfterEach(state, asking);
            changeNothing(state, asking);
        }
        end();
    }

    private static void eachAfterEach(State state, List<Answered> asking) {
        for (Answered first : asking) {
            for (Answered second : asking) {
                PermutationGroups x = state.make();
                due(x, first.call(), first.answer());
                due("after " + first.call().text() + ": " + second.call().text(), second.call().on(x), second.answer());
            }
        }
    }

    private static List<Call> asking() {
        return List.of(Call.generators(), Call.product(TURN_ALL, SWAP_01), Call.product(REVERSE, TURN_012),
            Call.inverse(TURN_ALL), Call.inverse(TURN_021), Call.order(), Call.has(TURN_ALL), Call.has(IDENTITY),
            Call.orbit(0), Call.orbit(5), Call.orbits(), Call.fixing(set(2)), Call.fixing(63), Call.keeping(0),
            Call.keeping(set(0, 1)), Call.images(set(1, 2, 3)), Call.images(63), Call.commuting(TURN_ALL),
            Call.commuting(SWAP_01), Call.alike(SWAP_01, SWAP_12), Call.alike(TURN_ALL, SWAP_01), Call.centre(),
            Call.commutative(), Call.carrier(0, 1), Call.carrier(3, 3), Call.normaliser());
    }
}
