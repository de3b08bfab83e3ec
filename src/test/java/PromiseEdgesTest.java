/** The sentences of the promises that name a boundary, each by itself, with the promise's number. */
public final class PromiseEdgesTest extends Samples {
    public static void main(String[] args) {
        newObjectHasNoGenerator();
        addAddsWhateverIsThereAlready();
        addTestsForNoPermutationBeforeFull();
        addAnswersOneToFive();
        removeTakesTheLast();
        removeOfNone();
        removeAnswersThatPermutation();
        conjugateAllOfEveryGenerator();
        conjugateAllRefuses();
        conjugateAllAnswersZeroToFive();
        generatorsAreZeroToFive();
        productOfEdges();
        productRefuses();
        inverseOfEdges();
        inverseRefuses();
        orderOfLeastAndGreatestGroup();
        hasOfLeastAndGreatestGroup();
        hasOfNoPermutation();
        orbitOfLeastAndGreatestGroup();
        orbitRefuses();
        orbitsAreOneToSix();
        fixingEmptyAndFullSet();
        fixingRefuses();
        keepingEmptyAndFullSet();
        keepingRefuses();
        imagesOfEmptyAndFullSet();
        imagesRefuses();
        commutingInLeastAndGreatestGroup();
        commutingRefuses();
        alikeInLeastAndGreatestGroup();
        alikeOfNoPermutation();
        centreOfLeastAndGreatestGroup();
        commutativeOfLeastAndGreatestGroup();
        carrierIsTheLeastNumber();
        carrierOfNone();
        carrierRefuses();
        normaliserOfLeastAndGreatestGroup();
        carrierTestsForBadArgBeforeNone();
        end();
    }

    /** The state in which a wrong argument is handed over must not matter: none, some, full, all. */
    private static PermutationGroups[] states() {
        return new PermutationGroups[] {
            new PermutationGroups(), group(TURN_012), group(SWAP_01, SWAP_01, SWAP_01, SWAP_01, SWAP_01),
            everything(), group(ALL_SWAPS)
        };
    }

    private static void newObjectHasNoGenerator() {
        sentence("1: There is no generator (so G has the identity only).");
        PermutationGroups x = new PermutationGroups();
        due(x, Call.generators(), 0);
        due(x, Call.order(), 1);
        due(x, Call.has(IDENTITY), true);
        due(x, Call.remove(), NONE);
        PermutationGroups whole = new PermutationGroups();
        int members = 0;
        for (int i = 0; i < 512; i++) {
            members += whole.has(ALL_PERMUTATIONS[i]) ? 1 : 0;
        }
        whole = new PermutationGroups();
        for (int i = 512; i < 720; i++) {
            members += whole.has(ALL_PERMUTATIONS[i]) ? 1 : 0;
        }
        due("members of a new object", members, 1);
    }

    private static void addAddsWhateverIsThereAlready() {
        sentence("2: Adds the generator g.");
        PermutationGroups x = new PermutationGroups();
        due(x, Call.add(IDENTITY), 1);
        due(x, Call.order(), 1);
        due(x, Call.add(TURN_012), 2);
        due(x, Call.order(), 3);
        due(x, Call.add(TURN_021), 3);
        due(x, Call.order(), 3);
        due(x, Call.add(TURN_012), 4);
        due(x, Call.order(), 3);
        due(x, Call.add(TURN_345), 5);
        due(x, Call.order(), 9);
    }

    private static void addTestsForNoPermutationBeforeFull() {
        sentence("2: Tested in this order: no permutation answers BAD_ARG; FULL.");
        PermutationGroups full = group(ALL_SWAPS);
        for (int g : NO_PERMUTATIONS) {
            due(full, Call.add(g), BAD_ARG);
            due(new PermutationGroups(), Call.add(g), BAD_ARG);
            due(group(TURN_ALL, TURN_ALL, TURN_ALL, TURN_ALL), Call.add(g), BAD_ARG);
        }
        for (int g : new int[] {REVERSE, IDENTITY, SWAP_01, TURN_ALL}) {
            due(full, Call.add(g), FULL);
        }
    }

    private static void addAnswersOneToFive() {
        sentence("2: Otherwise the number of generators.");
        PermutationGroups x = new PermutationGroups();
        due(x, Call.add(0), BAD_ARG);
        due(x, Call.add(REVERSE), 1);
        due(x, Call.add(IDENTITY), 2);
        due(x, Call.add(-1), BAD_ARG);
        due(x, Call.add(REVERSE), 3);
        due(x, Call.remove(), REVERSE);
        due(x, Call.add(TURN_ALL), 3);
        due(x, Call.add(TURN_012), 4);
        due(x, Call.add(SWAP_01), 5);
        due(x, Call.add(SWAP_12), FULL);
    }

    private static void removeTakesTheLast() {
        sentence("3: Removes the generator added last.");
        PermutationGroups x = group(SWAP_01, TURN_345, SWAP_01, IDENTITY, TURN_ALL);
        due(x, Call.add(SWAP_45), FULL);
        due(x, Call.remove(), TURN_ALL);
        due(x, Call.order(), 6);
        due(x, Call.remove(), IDENTITY);
        due(x, Call.order(), 6);
        due(x, Call.remove(), SWAP_01);
        due(x, Call.order(), 6);
        due(x, Call.remove(), TURN_345);
        due(x, Call.order(), 2);
        due(x, Call.add(SWAP_45), 2);
        due(x, Call.remove(), SWAP_45);
        due(x, Call.remove(), SWAP_01);
        due(x, Call.order(), 1);
    }

    private static void removeOfNone() {
        sentence("3: NONE if there is none.");
        PermutationGroups x = new PermutationGroups();
        due(x, Call.remove(), NONE);
        due(x, Call.remove(), NONE);
        due(x, Call.generators(), 0);
        due(x, Call.add(SWAP_01), 1);
        due(x, Call.remove(), SWAP_01);
        due(x, Call.remove(), NONE);
        PermutationGroups emptied = group(ALL_SWAPS);
        for (int i = 4; i >= 0; i--) {
            due(emptied, Call.remove(), ALL_SWAPS[i]);
        }
        due(emptied, Call.remove(), NONE);
        due(emptied, Call.order(), 1);
        due(emptied, Call.add(TURN_ALL), 1);
    }

    private static void removeAnswersThatPermutation() {
        sentence("3: Otherwise that permutation.");
        for (int g : ALL_PERMUTATIONS) {
            due(group(g), Call.remove(), g);
            due(group(SWAP_01, SWAP_12, SWAP_23, SWAP_34, g), Call.remove(), g);
        }
    }

    private static void conjugateAllOfEveryGenerator() {
        sentence("4: Puts h^-1 g h (the inverse of h, then g, then h) in place of every generator g.");
        PermutationGroups five = group(SWAP_01, SWAP_12, SWAP_23, SWAP_34, SWAP_01);
        due(five, Call.conjugateAll(TURN_ALL), 5);
        due(five, Call.remove(), SWAP_12);
        due(five, Call.remove(), SWAP_45);
        due(five, Call.remove(), SWAP_34);
        due(five, Call.remove(), SWAP_23);
        due(five, Call.remove(), SWAP_12);
        due(five, Call.remove(), NONE);
        PermutationGroups byIdentity = group(SWAP_01, TURN_ALL);
        due(byIdentity, Call.conjugateAll(IDENTITY), 2);
        due(byIdentity, Call.remove(), TURN_ALL);
        due(byIdentity, Call.remove(), SWAP_01);
        PermutationGroups none = new PermutationGroups();
        due(none, Call.conjugateAll(TURN_ALL), 0);
        due(none, Call.order(), 1);
        due(none, Call.remove(), NONE);
        // A generator that was removed is none any more: it must not come back.
        PermutationGroups removed = group(SWAP_01, TURN_ALL);
        due(removed, Call.remove(), TURN_ALL);
        due(removed, Call.conjugateAll(TURN_012), 1);
        due(removed, Call.order(), 2);
        due(removed, Call.has(SWAP_12), true);
        due(removed, Call.has(SWAP_01), false);
    }

    private static void conjugateAllRefuses() {
        sentence("4: BAD_ARG if h is no permutation.");
        for (PermutationGroups x : states()) {
            for (int h : NO_PERMUTATIONS) {
                due(x, Call.conjugateAll(h), BAD_ARG);
            }
        }
    }

    private static void conjugateAllAnswersZeroToFive() {
        sentence("4: Otherwise the number of generators.");
        PermutationGroups x = new PermutationGroups();
        for (int i = 0; i < 5; i++) {
            due(x, Call.conjugateAll(REVERSE), i);
            x.add(ALL_SWAPS[i]);
        }
        due(x, Call.conjugateAll(IDENTITY), 5);
    }

    private static void generatorsAreZeroToFive() {
        sentence("5: The number of generators.");
        PermutationGroups x = new PermutationGroups();
        due(x, Call.generators(), 0);
        x.remove();
        due(x, Call.generators(), 0);
        for (int i = 1; i <= 5; i++) {
            x.add(IDENTITY);
            due(x, Call.generators(), i);
        }
        x.add(IDENTITY);
        due(x, Call.generators(), 5);
        x.add(0);
        due(x, Call.generators(), 5);
        for (int i = 4; i >= 0; i--) {
            x.remove();
            due(x, Call.generators(), i);
        }
    }

    private static void productOfEdges() {
        sentence("6: The product g h");
        for (PermutationGroups x : states()) {
            due(x, Call.product(IDENTITY, IDENTITY), IDENTITY);
            due(x, Call.product(REVERSE, REVERSE), IDENTITY);
            due(x, Call.product(REVERSE, IDENTITY), REVERSE);
            due(x, Call.product(SWAP_01, SWAP_12), TURN_021);
            due(x, Call.product(SWAP_12, SWAP_01), TURN_012);
        }
    }

    private static void productRefuses() {
        sentence("6: BAD_ARG if one is no permutation.");
        for (PermutationGroups x : states()) {
            for (int g : NO_PERMUTATIONS) {
                due(x, Call.product(g, REVERSE), BAD_ARG);
                due(x, Call.product(IDENTITY, g), BAD_ARG);
                due(x, Call.product(g, g), BAD_ARG);
            }
        }
    }

    private static void inverseOfEdges() {
        sentence("7: The inverse of g");
        for (PermutationGroups x : states()) {
            due(x, Call.inverse(IDENTITY), IDENTITY);
            due(x, Call.inverse(REVERSE), REVERSE);
            due(x, Call.inverse(TURN_ALL), TURN_ALL_BACK);
            due(x, Call.inverse(TURN_ALL_BACK), TURN_ALL);
        }
    }

    private static void inverseRefuses() {
        sentence("7: BAD_ARG if it is no permutation.");
        for (PermutationGroups x : states()) {
            for (int g : NO_PERMUTATIONS) {
                due(x, Call.inverse(g), BAD_ARG);
            }
        }
    }

    private static void orderOfLeastAndGreatestGroup() {
        sentence("8: The number of permutations in G.");
        due(new PermutationGroups(), Call.order(), 1);
        due(group(IDENTITY, IDENTITY, IDENTITY, IDENTITY, IDENTITY), Call.order(), 1);
        due(group(SWAP_01, SWAP_01, SWAP_01, SWAP_01, SWAP_01), Call.order(), 2);
        due(everything(), Call.order(), 720);
        due(group(ALL_SWAPS), Call.order(), 720);
        due(group(IDENTITY, IDENTITY, IDENTITY, SWAP_01, TURN_ALL), Call.order(), 720);
        PermutationGroups back = everything();
        back.remove();
        back.remove();
        due(back, Call.order(), 1);
    }

    private static void hasOfLeastAndGreatestGroup() {
        sentence("9: Whether g is in G");
        PermutationGroups was720 = everything();
        was720.remove();
        for (int g : new int[] {REVERSE, SWAP_01, TURN_ALL, IDENTITY}) {
            due(new PermutationGroups(), Call.has(g), g == IDENTITY);
            due(group(IDENTITY), Call.has(g), g == IDENTITY);
            due(everything(), Call.has(g), true);
            due(was720, Call.has(g), g == IDENTITY || g == SWAP_01);
        }
    }

    private static void hasOfNoPermutation() {
        sentence("9: false if it is no permutation.");
        for (PermutationGroups x : states()) {
            for (int g : NO_PERMUTATIONS) {
                due(x, Call.has(g), false);
            }
        }
    }

    private static void orbitOfLeastAndGreatestGroup() {
        sentence("10: The set of the points x^g for all g in G");
        for (int point = 0; point <= 5; point++) {
            due(new PermutationGroups(), Call.orbit(point), 1 << point);
            due(everything(), Call.orbit(point), 63);
            due(group(TURN_01234), Call.orbit(point), point == 5 ? 32 : 31);
        }
    }

    private static void orbitRefuses() {
        sentence("10: BAD_ARG if x is not 0 to 5.");
        for (PermutationGroups x : states()) {
            for (int point : NO_POINTS) {
                due(x, Call.orbit(point), BAD_ARG);
            }
        }
    }

    private static void orbitsAreOneToSix() {
        sentence("11: The number of different orbits.");
        PermutationGroups x = new PermutationGroups();
        due(x, Call.orbits(), 6);
        for (int i = 0; i < 5; i++) {
            x.add(ALL_SWAPS[i]);
            due(x, Call.orbits(), 5 - i);
        }
        due(group(IDENTITY), Call.orbits(), 6);
        due(everything(), Call.orbits(), 1);
    }

    private static void fixingEmptyAndFullSet() {
        sentence("12: How many g in G have x^g = x for every point x of the set");
        due(new PermutationGroups(), Call.fixing(0), 1);
        due(new PermutationGroups(), Call.fixing(63), 1);
        due(hexagon(), Call.fixing(0), 12);
        due(hexagon(), Call.fixing(63), 1);
        due(everything(), Call.fixing(0), 720);
        due(everything(), Call.fixing(63), 1);
        // Whatever keeps five points in their places keeps the sixth.
        due(everything(), Call.fixing(31), 1);
        due(everything(), Call.fixing(62), 1);
        due(everything(), Call.fixing(15), 2);
    }

    private static void fixingRefuses() {
        sentence("12: BAD_ARG if set is not 0 to 63.");
        for (PermutationGroups x : states()) {
            for (int set : NO_SETS) {
                due(x, Call.fixing(set), BAD_ARG);
            }
        }
    }

    private static void keepingEmptyAndFullSet() {
        sentence("13: How many g in G have set^g = set");
        due(new PermutationGroups(), Call.keeping(0), 1);
        due(new PermutationGroups(), Call.keeping(63), 1);
        due(hexagon(), Call.keeping(0), 12);
        due(hexagon(), Call.keeping(63), 12);
        due(everything(), Call.keeping(0), 720);
        due(everything(), Call.keeping(63), 720);
        due(everything(), Call.keeping(1), 120);
        due(everything(), Call.keeping(62), 120);
    }

    private static void keepingRefuses() {
        sentence("13: BAD_ARG if set is not 0 to 63.");
        for (PermutationGroups x : states()) {
            for (int set : NO_SETS) {
                due(x, Call.keeping(set), BAD_ARG);
            }
        }
    }

    private static void imagesOfEmptyAndFullSet() {
        sentence("14: How many different sets set^g there are for g in G");
        for (PermutationGroups x : states()) {
            due(x, Call.images(0), 1);
            due(x, Call.images(63), 1);
        }
        // The set of the last five points has the greatest number but one: its images too are told apart.
        due(everything(), Call.images(62), 6);
        due(everything(), Call.images(32), 6);
        due(everything(), Call.images(56), 20);
        due(new PermutationGroups(), Call.images(62), 1);
    }

    private static void imagesRefuses() {
        sentence("14: BAD_ARG if set is not 0 to 63.");
        for (PermutationGroups x : states()) {
            for (int set : NO_SETS) {
                due(x, Call.images(set), BAD_ARG);
            }
        }
    }

    private static void commutingInLeastAndGreatestGroup() {
        sentence("15: How many h in G have g h = h g");
        for (int g : new int[] {IDENTITY, REVERSE, TURN_ALL}) {
            due(new PermutationGroups(), Call.commuting(g), 1);
        }
        due(everything(), Call.commuting(IDENTITY), 720);
        due(everything(), Call.commuting(REVERSE), 48);
        due(everything(), Call.commuting(TURN_01234), 5);
        // g need not be in G.
        due(group(SWAP_01), Call.commuting(SWAP_45), 2);
        due(group(SWAP_01), Call.commuting(SWAP_12), 1);
    }

    private static void commutingRefuses() {
        sentence("15: BAD_ARG if g is no permutation.");
        for (PermutationGroups x : states()) {
            for (int g : NO_PERMUTATIONS) {
                due(x, Call.commuting(g), BAD_ARG);
            }
        }
    }

    private static void alikeInLeastAndGreatestGroup() {
        sentence("16: Whether there is an h in G with h^-1 g h = k");
        for (PermutationGroups x : states()) {
            due(x, Call.alike(IDENTITY, IDENTITY), true);
            due(x, Call.alike(REVERSE, REVERSE), true);
            due(x, Call.alike(IDENTITY, REVERSE), false);
            due(x, Call.alike(REVERSE, IDENTITY), false);
        }
        due(new PermutationGroups(), Call.alike(SWAP_01, SWAP_12), false);
        due(everything(), Call.alike(SWAP_01, SWAP_45), true);
        due(everything(), Call.alike(TURN_ALL, TURN_ALL_BACK), true);
        // g and k need not be in G, but h must be.
        due(group(TURN_012), Call.alike(SWAP_01, SWAP_12), true);
        due(group(TURN_012), Call.alike(SWAP_01, SWAP_23), false);
    }

    private static void alikeOfNoPermutation() {
        sentence("16: false if g or k is no permutation.");
        for (PermutationGroups x : states()) {
            for (int g : NO_PERMUTATIONS) {
                due(x, Call.alike(g, IDENTITY), false);
                due(x, Call.alike(REVERSE, g), false);
                due(x, Call.alike(g, g), false);
            }
        }
    }

    private static void centreOfLeastAndGreatestGroup() {
        sentence("17: How many g in G have g h = h g for all h in G.");
        due(new PermutationGroups(), Call.centre(), 1);
        due(group(IDENTITY), Call.centre(), 1);
        due(group(SWAP_01), Call.centre(), 2);
        due(group(TURN_012, SWAP_34), Call.centre(), 6);
        due(hexagon(), Call.centre(), 2);
        due(everything(), Call.centre(), 1);
        due(group(ALL_SWAPS), Call.centre(), 1);
    }

    private static void commutativeOfLeastAndGreatestGroup() {
        sentence("18: Whether g h = h g for all g, h in G.");
        due(new PermutationGroups(), Call.commutative(), true);
        due(group(IDENTITY), Call.commutative(), true);
        due(group(TURN_ALL, TURN_ALL, TURN_ALL, TURN_ALL, TURN_ALL), Call.commutative(), true);
        due(group(SWAP_01, SWAP_12), Call.commutative(), false);
        due(group(TURN_ALL, TURN_ALL, TURN_ALL, TURN_ALL, SWAP_01), Call.commutative(), false);
        due(everything(), Call.commutative(), false);
        PermutationGroups again = group(TURN_ALL, SWAP_01);
        again.remove();
        due(again, Call.commutative(), true);
    }

    private static void carrierIsTheLeastNumber() {
        sentence("19: The g in G that is the least number and has x^g = y");
        PermutationGroups x = everything();
        for (int point = 0; point <= 5; point++) {
            due(new PermutationGroups(), Call.carrier(point, point), IDENTITY);
            due(x, Call.carrier(point, 5 - point), REVERSE);
        }
        due(x, Call.carrier(0, 0), perm(0, 5, 4, 3, 2, 1));
        due(x, Call.carrier(5, 5), perm(4, 3, 2, 1, 0, 5));
        due(x, Call.carrier(0, 4), perm(4, 5, 3, 2, 1, 0));
        due(x, Call.carrier(5, 1), perm(5, 4, 3, 2, 0, 1));
        // The identity is the greatest permutation: any other that keeps the point comes before it.
        due(group(SWAP_01), Call.carrier(5, 5), SWAP_01);
        due(group(SWAP_01), Call.carrier(0, 0), IDENTITY);
    }

    private static void carrierOfNone() {
        sentence("19: NONE if there is none");
        PermutationGroups nothing = new PermutationGroups();
        PermutationGroups five = group(SWAP_01, SWAP_12, SWAP_23, SWAP_34, IDENTITY);
        for (int a = 0; a <= 5; a++) {
            for (int b = 0; b <= 5; b++) {
                due(nothing, Call.carrier(a, b), a == b ? IDENTITY : NONE);
                due("carrier(" + a + ", " + b + ") is NONE", five.carrier(a, b) == NONE, a != b && (a == 5 || b == 5));
            }
        }
    }

    private static void carrierRefuses() {
        sentence("19: BAD_ARG if x or y is not 0 to 5.");
        for (PermutationGroups x : states()) {
            for (int point : NO_POINTS) {
                due(x, Call.carrier(point, 0), BAD_ARG);
                due(x, Call.carrier(point, 5), BAD_ARG);
                due(x, Call.carrier(0, point), BAD_ARG);
                due(x, Call.carrier(5, point), BAD_ARG);
                due(x, Call.carrier(point, point), BAD_ARG);
            }
        }
    }

    private static void normaliserOfLeastAndGreatestGroup() {
        sentence("20: How many h of all 720 permutations have: h^-1 g h is in G for every g in G.");
        due(new PermutationGroups(), Call.normaliser(), 720);
        due(group(IDENTITY), Call.normaliser(), 720);
        due(everything(), Call.normaliser(), 720);
        due(group(ALL_SWAPS), Call.normaliser(), 720);
        due(group(SWAP_01, TURN_01234), Call.normaliser(), 120);
        due(group(SWAP_01), Call.normaliser(), 48);
        due(hexagon(), Call.normaliser(), 12);
    }

    private static void carrierTestsForBadArgBeforeNone() {
        sentence("21: carrier: BAD_ARG is tested before NONE.");
        // No member takes 0 to 5 or 5 to 0 in any of these, so that NONE would be due as well.
        PermutationGroups[] states = {new PermutationGroups(), group(TURN_01234), group(SWAP_45)};
        for (PermutationGroups x : states) {
            due(x, Call.carrier(0, 5), NONE);
            due(x, Call.carrier(5, 0), NONE);
            for (int point : NO_POINTS) {
                due(x, Call.carrier(0, point), BAD_ARG);
                due(x, Call.carrier(5, point), BAD_ARG);
                due(x, Call.carrier(point, 0), BAD_ARG);
                due(x, Call.carrier(point, 5), BAD_ARG);
                due(x, Call.carrier(point, point), BAD_ARG);
            }
        }
    }
}
