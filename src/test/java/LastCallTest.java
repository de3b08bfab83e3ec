import java.util.ArrayList;
import java.util.LinkedHashMap;
import java.util.List;
import java.util.Map;

/**
 * What it is: "An object is used for at most 512 calls after it has been made; what later calls
 * answer is free." So the 512th call still answers as promised; no test makes a later one.
 */
public final class LastCallTest extends Samples {
    private static final int MOST_CALLS = 512;

    public static void main(String[] args) {
        sentence("at most 512 calls after it has been made: each method as the 512th call");
        for (List<Call> filling : fillings()) {
            hexagonChanges().forEach((last, want) -> lastCall(List.of(TURN_ALL, MIRROR), filling, last, want));
            hexagonQuestions().forEach((last, want) -> lastCall(List.of(TURN_ALL, MIRROR), filling, last, want));
            fullCalls().forEach((last, want) -> lastCall(List.of(SWAP_01, SWAP_12, SWAP_23, SWAP_34, SWAP_45),
                filling, last, want));
            emptyQuestions().forEach((last, want) -> lastCall(List.of(), filling, last, want));
            lastCall(List.of(), filling, Call.add(SWAP_01), 1);
        }
        sentence("at most 512 calls after it has been made: the same question up to the 512th call");
        hexagonQuestions().forEach((question, want) -> sameOverAndOver(List.of(TURN_ALL, MIRROR), question, want));
        emptyQuestions().forEach((question, want) -> sameOverAndOver(List.of(), question, want));
        sentence("at most 512 calls after it has been made: 511 calls that add and remove, then order");
        eachOfManyAddsAndRemoves();
        sentence("at most 512 calls after it has been made: 510 calls of conjugateAll, then remove");
        eachOfManyConjugations();
        end();
    }

    /** Calls that, made over and over, leave the group as it is; used to come to the 511th call. */
    private static List<List<Call>> fillings() {
        List<Call> refused = List.of(Call.add(0), Call.conjugateAll(-1), Call.orbit(6), Call.fixing(64),
            Call.has(46656));
        List<Call> asking = List.of(Call.generators(), Call.order(), Call.orbits(), Call.centre(), Call.carrier(0, 3),
            Call.images(9), Call.normaliser());
        List<Call> conjugating = List.of(Call.conjugateAll(TURN_ALL), Call.conjugateAll(TURN_ALL_BACK));
        return List.of(refused, asking, conjugating);
    }

    private static Map<Call, Long> hexagonChanges() {
        return Map.of(Call.add(SWAP_01), 3L, Call.remove(), (long) MIRROR, Call.conjugateAll(SWAP_01), 2L);
    }

    /** Calls that change nothing, some of them because they are refused. */
    private static Map<Call, Long> hexagonQuestions() {
        Map<Call, Long> due = new LinkedHashMap<>();
        due.put(Call.add(0), (long) BAD_ARG);
        due.put(Call.conjugateAll(46656), (long) BAD_ARG);
        due.put(Call.generators(), 2L);
        due.put(Call.product(SWAP_01, SWAP_12), (long) TURN_021);
        due.put(Call.inverse(TURN_ALL), (long) TURN_ALL_BACK);
        due.put(Call.order(), 12L);
        due.put(Call.has(REVERSE), 1L);
        due.put(Call.has(SWAP_01), 0L);
        due.put(Call.orbit(5), 63L);
        due.put(Call.orbit(6), (long) BAD_ARG);
        due.put(Call.orbits(), 1L);
        due.put(Call.fixing(set(0)), 2L);
        due.put(Call.keeping(set(0, 3)), 4L);
        due.put(Call.images(set(0, 3)), 3L);
        due.put(Call.images(64), (long) BAD_ARG);
        due.put(Call.commuting(TURN_ALL), 6L);
        due.put(Call.alike(TURN_ALL, TURN_ALL_BACK), 1L);
        due.put(Call.alike(MIRROR, REVERSE), 0L);
        due.put(Call.centre(), 2L);
        due.put(Call.commutative(), 0L);
        due.put(Call.carrier(0, 5), (long) REVERSE);
        due.put(Call.carrier(0, 6), (long) BAD_ARG);
        due.put(Call.normaliser(), 12L);
        return due;
    }

    private static Map<Call, Long> fullCalls() {
        return Map.of(Call.add(SWAP_01), (long) FULL, Call.add(0), (long) BAD_ARG, Call.remove(), (long) SWAP_45,
            Call.generators(), 5L, Call.order(), 720L, Call.centre(), 1L, Call.conjugateAll(TURN_ALL), 5L,
            Call.normaliser(), 720L);
    }

    private static Map<Call, Long> emptyQuestions() {
        Map<Call, Long> due = new LinkedHashMap<>();
        due.put(Call.add(0), (long) BAD_ARG);
        due.put(Call.remove(), (long) NONE);
        due.put(Call.conjugateAll(TURN_ALL), 0L);
        due.put(Call.generators(), 0L);
        due.put(Call.product(SWAP_01, SWAP_12), (long) TURN_021);
        due.put(Call.inverse(TURN_ALL), (long) TURN_ALL_BACK);
        due.put(Call.order(), 1L);
        due.put(Call.has(IDENTITY), 1L);
        due.put(Call.orbit(5), 32L);
        due.put(Call.orbits(), 6L);
        due.put(Call.fixing(0), 1L);
        due.put(Call.keeping(63), 1L);
        due.put(Call.images(63), 1L);
        due.put(Call.commuting(TURN_ALL), 1L);
        due.put(Call.alike(TURN_ALL, TURN_ALL), 1L);
        due.put(Call.centre(), 1L);
        due.put(Call.commutative(), 1L);
        due.put(Call.carrier(0, 1), (long) NONE);
        due.put(Call.normaliser(), 720L);
        return due;
    }

    private static void lastCall(List<Integer> generators, List<Call> filling, Call last, long want) {
        List<Call> calls = new ArrayList<>();
        for (int g : generators) {
            calls.add(Call.add(g));
        }
        // Only whole rounds of the filling leave the group as it is.
        while (calls.size() + filling.size() <= MOST_CALLS - 1) {
            calls.addAll(filling);
        }
        while (calls.size() < MOST_CALLS - 1) {
            calls.add(Call.order());
        }
        PermutationGroups x = new PermutationGroups();
        calls.forEach(call -> call.on(x));
        due(x, last, want);
    }

    private static void sameOverAndOver(List<Integer> generators, Call question, long want) {
        PermutationGroups x = new PermutationGroups();
        generators.forEach(g -> x.add(g));
        for (int made = generators.size(); made < MOST_CALLS; made++) {
            due(x, question, want);
        }
    }

    /** Fills and empties the object over and over, with a refused call at each end. */
    private static void eachOfManyAddsAndRemoves() {
        PermutationGroups x = new PermutationGroups();
        for (int made = 0; made < MOST_CALLS - 1; made++) {
            int step = made % 12;
            if (step < 5) {
                due(x, Call.add(ALL_SWAPS[step]), step + 1);
            } else if (step == 5) {
                due(x, Call.add(TURN_ALL), FULL);
            } else if (step < 11) {
                due(x, Call.remove(), ALL_SWAPS[10 - step]);
            } else {
                due(x, Call.remove(), NONE);
            }
        }
        // 511 is 42 times 12 and 7, so the first four swaps are left: those of the points 0 to 4.
        due(x, Call.order(), 120);
    }

    private static void eachOfManyConjugations() {
        PermutationGroups x = group(SWAP_01);
        for (int i = 0; i < 510; i++) {
            due(x, Call.conjugateAll(TURN_ALL), 1);
        }
        // The turn has order 6, which divides 510.
        due(x, Call.remove(), SWAP_01);
    }
}
