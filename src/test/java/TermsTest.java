import java.util.ArrayList;
import java.util.HashSet;
import java.util.List;
import java.util.Set;

/** The sentences of the document's "Terms", each by itself. */
public final class TermsTest extends Samples {
    private static final int[] SCALE = {1, 6, 36, 216, 1296, 7776};
    private static final int MOST_CALLS = 512;

    public static void main(String[] args) {
        pointsAreZeroToFive();
        permutationTooSmall();
        permutationTooLarge();
        permutationThatNamesAPointTwice();
        permutationsAre720();
        permutationIsASumOfSixParts();
        productTakesTheLeftOneFirst();
        inverseTakesItBack();
        identityTakesEveryPointToItself();
        atMostFiveGenerators();
        productOfNoGenerator();
        productsOfAnyNumber();
        productsOfInverses();
        groupIsTheProductsAndNoOthers();
        setsAreZeroTo63();
        setOfEachPoint();
        imageOfEverySet();
        noCallThrows();
        badArgIsMinusOne();
        fullIsMinusTwo();
        noneIsMinusFour();
        end();
    }

    private static void pointsAreZeroToFive() {
        sentence("POINTS are 0 to 5.");
        PermutationGroups x = everything();
        for (int point = 0; point <= 5; point++) {
            due(x, Call.orbit(point), 63);
            due(new PermutationGroups(), Call.orbit(point), 1 << point);
            due(new PermutationGroups(), Call.carrier(point, point), IDENTITY);
        }
        due(x, Call.carrier(0, 5), REVERSE);
        due(x, Call.carrier(5, 0), REVERSE);
        for (int point : NO_POINTS) {
            due(x, Call.orbit(point), BAD_ARG);
            due(x, Call.carrier(point, 0), BAD_ARG);
            due(x, Call.carrier(5, point), BAD_ARG);
        }
    }

    private static void permutationTooSmall() {
        sentence("A PERMUTATION [..] is handed over as the number x0 + 6 x1 + [..]: too small for one");
        allRefuse(TOO_SMALL);
    }

    private static void permutationTooLarge() {
        sentence("A PERMUTATION [..] is handed over as the number x0 + 6 x1 + [..]: too large for one");
        allRefuse(TOO_LARGE);
    }

    private static void permutationThatNamesAPointTwice() {
        sentence("A PERMUTATION g takes [..] different points to different ones");
        allRefuse(POINT_TWICE);
    }

    /** Every method that takes a permutation, and every place in which it takes one. */
    private static void allRefuse(int[] noPermutations) {
        for (int g : noPermutations) {
            PermutationGroups x = everything();
            due(x, Call.add(g), BAD_ARG);
            due(x, Call.conjugateAll(g), BAD_ARG);
            due(x, Call.product(g, IDENTITY), BAD_ARG);
            due(x, Call.product(IDENTITY, g), BAD_ARG);
            due(x, Call.product(g, g), BAD_ARG);
            due(x, Call.inverse(g), BAD_ARG);
            due(x, Call.has(g), false);
            due(x, Call.commuting(g), BAD_ARG);
            due(x, Call.alike(g, IDENTITY), false);
            due(x, Call.alike(IDENTITY, g), false);
            due(x, Call.alike(g, g), false);
        }
    }

    private static void permutationsAre720() {
        sentence("A PERMUTATION g takes every point x to a point x^g, different points to different ones");
        int added = 0;
        int refused = 0;
        for (int g = 0; g < 46656; g++) {
            int answer = new PermutationGroups().add(g);
            added += answer == 1 ? 1 : 0;
            refused += answer == BAD_ARG ? 1 : 0;
        }
        due("numbers that add takes", added, 720);
        due("numbers that add refuses", refused, 46656 - 720);
        due(new PermutationGroups(), Call.add(1865), 1);
        due(new PermutationGroups(), Call.add(1864), BAD_ARG);
        due(new PermutationGroups(), Call.add(44790), 1);
        due(new PermutationGroups(), Call.add(44791), BAD_ARG);
    }

    private static void permutationIsASumOfSixParts() {
        sentence("the number x0 + 6 x1 + 36 x2 + 216 x3 + 1296 x4 + 7776 x5 with xi = i^g");
        for (int a = 0; a < 6; a++) {
            for (int b = a + 1; b < 6; b++) {
                int swap = IDENTITY + (b - a) * SCALE[a] + (a - b) * SCALE[b];
                PermutationGroups x = group(swap);
                due(x, Call.orbit(a), set(a, b));
                due(x, Call.orbit(b), set(a, b));
                due(x, Call.orbits(), 5);
                due(x, Call.carrier(a, b), swap);
            }
        }
        due(group(TURN_ALL), Call.carrier(0, 1), 1 + 6 * 2 + 36 * 3 + 216 * 4 + 1296 * 5);
        due(group(TURN_ALL), Call.carrier(1, 0), 5 + 36 + 216 * 2 + 1296 * 3 + 7776 * 4);
    }

    private static void productTakesTheLeftOneFirst() {
        sentence("The PRODUCT g h takes x to (x^g)^h");
        for (int g : ALL_PERMUTATIONS) {
            PermutationGroups x = new PermutationGroups();
            for (int i = 0; i < 720; i++) {
                if (i == MOST_CALLS) {
                    x = new PermutationGroups();
                }
                int h = ALL_PERMUTATIONS[i];
                due(x, Call.product(g, h), product(g, h));
            }
        }
    }

    private static int image(int g, int x) {
        return g / SCALE[x] % 6;
    }

    private static int product(int g, int h) {
        int code = 0;
        for (int x = 0; x < 6; x++) {
            code += image(h, image(g, x)) * SCALE[x];
        }
        return code;
    }

    private static int inverse(int g) {
        int code = 0;
        for (int x = 0; x < 6; x++) {
            code += x * SCALE[image(g, x)];
        }
        return code;
    }

    private static void inverseTakesItBack() {
        sentence("the INVERSE of g takes x^g to x");
        for (int g : ALL_PERMUTATIONS) {
            PermutationGroups x = new PermutationGroups();
            int back = inverse(g);
            due(x, Call.inverse(g), back);
            due(x, Call.product(g, back), IDENTITY);
            due(x, Call.product(back, g), IDENTITY);
        }
    }

    private static void identityTakesEveryPointToItself() {
        sentence("IDENTITY takes every x to x.");
        PermutationGroups x = group(IDENTITY);
        due(x, Call.order(), 1);
        due(x, Call.fixing(63), 1);
        due(x, Call.inverse(IDENTITY), IDENTITY);
        due(x, Call.product(IDENTITY, IDENTITY), IDENTITY);
        due(x, Call.product(IDENTITY, REVERSE), REVERSE);
        due(x, Call.product(REVERSE, IDENTITY), REVERSE);
    }

    private static void atMostFiveGenerators() {
        sentence("There are at most 5 GENERATORS");
        PermutationGroups x = new PermutationGroups();
        for (int i = 0; i < 5; i++) {
            due(x, Call.add(ALL_SWAPS[i]), i + 1);
        }
        for (int g : new int[] {TURN_ALL, IDENTITY, SWAP_45}) {
            due(x, Call.add(g), FULL);
            due(x, Call.generators(), 5);
        }
        due(x, Call.remove(), SWAP_45);
        due(x, Call.add(TURN_ALL), 5);
        due(x, Call.add(SWAP_45), FULL);
        due(x, Call.remove(), TURN_ALL);
    }

    private static void productOfNoGenerator() {
        sentence("products of any number (0 too: the identity)");
        PermutationGroups x = new PermutationGroups();
        due(x, Call.has(IDENTITY), true);
        due(x, Call.order(), 1);
        for (int g : ALL_PERMUTATIONS) {
            due(new PermutationGroups(), Call.has(g), g == IDENTITY);
            due(group(g), Call.has(IDENTITY), true);
        }
    }

    private static void productsOfAnyNumber() {
        sentence("the set of all permutations that are products of any number [..] of generators");
        // From swaps of neighbours, to reverse all takes 15 of them, more than anything else does.
        due(group(ALL_SWAPS), Call.has(REVERSE), true);
        for (int g : ALL_PERMUTATIONS) {
            due(group(ALL_SWAPS), Call.has(g), true);
            due(everything(), Call.has(g), true);
        }
        // Every swap is odd, and these are all even: no product of them is odd.
        PermutationGroups even = group(TURN_012, perm(0, 2, 3, 4, 5, 1));
        due(even, Call.order(), 360);
        for (int swap : ALL_SWAPS) {
            due(even, Call.has(swap), false);
        }
    }

    private static void productsOfInverses() {
        sentence("products of any number [..] of generators and inverses of generators");
        for (int g : ALL_PERMUTATIONS) {
            PermutationGroups x = group(g);
            int back = x.inverse(g);
            due(x, Call.has(back), true);
        }
    }

    private static void groupIsTheProductsAndNoOthers() {
        sentence("the GROUP G is the set of all permutations that are products [..]");
        int[][] lists = {
            {}, {IDENTITY}, {SWAP_23}, {TURN_ALL}, {TURN_012, TURN_345}, {SWAP_01, SWAP_23, SWAP_45}, {TURN_ALL, MIRROR},
            {TURN_0123, SWAP_45}, {TURN_012, TURN_01234}, {TURN_0123, SWAP_01}, {TURN_01234, perm(0, 2, 4, 1, 3, 5)},
            {TURN_01234, perm(5, 4, 2, 3, 1, 0)}, {SWAP_01, TURN_012, SWAP_34, TURN_345, perm(3, 4, 5, 0, 1, 2)}
        };
        for (int[] generators : lists) {
            Set<Integer> members = products(generators);
            due(group(generators), Call.order(), members.size());
            for (int from = 0; from < 720; from += 360) {
                PermutationGroups x = group(generators);
                for (int i = from; i < from + 360; i++) {
                    due(x, Call.has(ALL_PERMUTATIONS[i]), members.contains(ALL_PERMUTATIONS[i]));
                }
            }
        }
    }

    /** Products of 0, 1, 2, .. generators and inverses of generators, until a length brings no new one. */
    private static Set<Integer> products(int[] generators) {
        Set<Integer> found = new HashSet<>(Set.of(IDENTITY));
        Set<Integer> longest = found;
        while (!longest.isEmpty()) {
            Set<Integer> longer = new HashSet<>();
            for (int product : longest) {
                for (int g : generators) {
                    longer.add(product(product, g));
                    longer.add(product(product, inverse(g)));
                }
            }
            longer.removeAll(found);
            found.addAll(longer);
            longest = longer;
        }
        return found;
    }

    private static void setsAreZeroTo63() {
        sentence("A set of points is the number [..] (0 to 63)");
        PermutationGroups x = everything();
        for (int set : new int[] {0, 63}) {
            due(x, Call.fixing(set), set == 0 ? 720 : 1);
            due(x, Call.keeping(set), 720);
            due(x, Call.images(set), 1);
        }
        for (int set : NO_SETS) {
            due(x, Call.fixing(set), BAD_ARG);
            due(x, Call.keeping(set), BAD_ARG);
            due(x, Call.images(set), BAD_ARG);
        }
    }

    private static void setOfEachPoint() {
        sentence("A set of points is the number that has 2 to the power x added up for its points x");
        // Each swap moves its own two points only, so the sets of one point tell the powers apart.
        for (int a = 0; a < 5; a++) {
            PermutationGroups x = group(ALL_SWAPS[a]);
            for (int point = 0; point < 6; point++) {
                boolean moved = point == a || point == a + 1;
                due(x, Call.fixing(1 << point), moved ? 1 : 2);
                due(x, Call.keeping(1 << point), moved ? 1 : 2);
                due(x, Call.images(1 << point), moved ? 2 : 1);
                due(x, Call.orbit(point), moved ? (1 << a) + (2 << a) : 1 << point);
            }
        }
    }

    private static void imageOfEverySet() {
        sentence("the set S^g has the points x^g for x in S");
        for (int g : ALL_PERMUTATIONS) {
            PermutationGroups x = group(g);
            int powers = products(new int[] {g}).size();
            for (int set = 0; set <= 63; set++) {
                // The sets S, S^g, (S^g)^g, .. come round to S: so many there are, each for as many powers of g.
                int images = 1;
                for (int image = imageOfSet(set, g); image != set; image = imageOfSet(image, g)) {
                    images++;
                }
                due(x, Call.images(set), images);
                due(x, Call.keeping(set), powers / images);
            }
        }
    }

    private static int imageOfSet(int set, int g) {
        int found = 0;
        for (int x = 0; x < 6; x++) {
            if ((set & 1 << x) != 0) {
                found |= 1 << image(g, x);
            }
        }
        return found;
    }

    private static void noCallThrows() {
        sentence("No call ever throws.");
        int[] arguments = joined(NO_PERMUTATIONS, NO_POINTS, NO_SETS, new int[] {2, 5, 63, 1865, 7465, 44785, 44790});
        for (int[] generators : new int[][] {{}, {TURN_ALL}, {SWAP_01, TURN_ALL}, ALL_SWAPS}) {
            for (int argument : arguments) {
                PermutationGroups x = group(generators);
                for (Call call : callsWith(argument)) {
                    answers(x, call);
                }
            }
        }
    }

    private static List<Call> callsWith(int a) {
        List<Call> calls = new ArrayList<>(List.of(Call.add(a), Call.conjugateAll(a), Call.inverse(a), Call.has(a),
            Call.orbit(a), Call.fixing(a), Call.keeping(a), Call.images(a), Call.commuting(a)));
        for (int b : new int[] {Integer.MIN_VALUE, -1, 0, 5, 6, 63, 64, 1865, 44790, 46656, Integer.MAX_VALUE}) {
            calls.addAll(List.of(Call.product(a, b), Call.product(b, a), Call.alike(a, b), Call.alike(b, a),
                Call.carrier(a, b), Call.carrier(b, a)));
        }
        calls.addAll(List.of(Call.generators(), Call.order(), Call.orbits(), Call.centre(), Call.commutative(),
            Call.normaliser(), Call.remove(), Call.remove(), Call.remove(), Call.remove(), Call.remove(),
            Call.remove(), Call.remove()));
        return calls;
    }

    private static void answers(PermutationGroups x, Call call) {
        boolean answered = true;
        try {
            call.on(x);
        } catch (RuntimeException | Error thrown) {
            answered = false;
        }
        due(call.text() + " without throwing", answered, true);
    }

    private static void badArgIsMinusOne() {
        sentence("BAD_ARG = -1: An argument is no permutation or out of its range.");
        due("BAD_ARG", PermutationGroups.BAD_ARG, -1);
        due(new PermutationGroups(), Call.add(0), -1);
        due(new PermutationGroups(), Call.orbit(6), -1);
        due(new PermutationGroups(), Call.fixing(64), -1);
    }

    private static void fullIsMinusTwo() {
        sentence("FULL = -2: There are 5 generators.");
        due("FULL", PermutationGroups.FULL, -2);
        due(group(TURN_ALL, TURN_ALL, TURN_ALL, TURN_ALL), Call.add(TURN_ALL), 5);
        due(group(TURN_ALL, TURN_ALL, TURN_ALL, TURN_ALL, TURN_ALL), Call.add(TURN_ALL), -2);
    }

    private static void noneIsMinusFour() {
        sentence("NONE = -4: There is no such thing.");
        due("NONE", PermutationGroups.NONE, -4);
        due(new PermutationGroups(), Call.remove(), -4);
        due(new PermutationGroups(), Call.carrier(0, 1), -4);
    }
}
