/** Each promise of the document by itself: ordinary inputs, the edges it names, and wrong inputs. */
public final class PromisesTest extends Samples {
    public static void main(String[] args) {
        promise1NewObject();
        promise2Add();
        promise3Remove();
        promise4ConjugateAll();
        promise5Generators();
        promise6Product();
        promise7Inverse();
        promise8Order();
        promise9Has();
        promise10Orbit();
        promise11Orbits();
        promise12Fixing();
        promise13Keeping();
        promise14Images();
        promise15Commuting();
        promise16Alike();
        promise17Centre();
        promise18Commutative();
        promise19Carrier();
        promise20Normaliser();
        promise21OrderAndLimits();
        objectsStandAlone();
        end();
    }

    private static void promise1NewObject() {
        PermutationGroups x = new PermutationGroups();
        due("1: generators", x.generators(), 0);
        due("1: order", x.order(), 1);
        due("1: has identity", x.has(IDENTITY), true);
        due("1: has a swap", x.has(SWAP_01), false);
        due("1: orbits", x.orbits(), 6);
        due("1: normaliser", x.normaliser(), 720);
        due("1: carrier(3, 3)", x.carrier(3, 3), IDENTITY);
        due("1: centre", x.centre(), 1);
        due("1: commutative", x.commutative(), true);
        due("1: conjugateAll", x.conjugateAll(TURN_ALL), 0);
        due("1: remove", x.remove(), NONE);
    }

    private static void promise2Add() {
        PermutationGroups x = new PermutationGroups();
        for (int g : NO_PERMUTATIONS) {
            due("2: add(" + g + ")", x.add(g), BAD_ARG);
        }
        due("2: the least permutation", x.add(REVERSE), 1);
        due("2: the greatest permutation", x.add(IDENTITY), 2);
        due("2: one that is there", x.add(REVERSE), 3);
        due("2: the fourth", x.add(TURN_012), 4);
        due("2: the fifth", x.add(SWAP_01), 5);
        due("2: the sixth", x.add(TURN_ALL), FULL);
        due("2: the sixth, one that is there", x.add(SWAP_01), FULL);
        for (int g : NO_PERMUTATIONS) {
            due("2: full, add(" + g + ")", x.add(g), BAD_ARG);
        }
        due("2: room again", x.remove(), SWAP_01);
        due("2: the fifth again", x.add(SWAP_45), 5);
        due("2: the fifth is the new one", x.remove(), SWAP_45);
    }

    private static void promise3Remove() {
        PermutationGroups x = group(SWAP_01, TURN_345, SWAP_01);
        due("3: last", x.remove(), SWAP_01);
        due("3: an equal one stays", x.order(), 6);
        due("3: middle", x.remove(), TURN_345);
        due("3: order", x.order(), 2);
        due("3: has what is left", x.has(SWAP_01), true);
        due("3: has what went", x.has(TURN_345), false);
        due("3: first", x.remove(), SWAP_01);
        due("3: generators", x.generators(), 0);
        due("3: none", x.remove(), NONE);
        due("3: none again", x.remove(), NONE);
        due("3: generators stay none", x.generators(), 0);
        due("3: order of none", x.order(), 1);
        due("3: add after none", x.add(TURN_012), 1);
        PermutationGroups five = group(SWAP_01, SWAP_12, SWAP_23, TURN_345, TURN_ALL);
        due("3: fifth of five", five.remove(), TURN_ALL);
        due("3: fourth of five", five.remove(), TURN_345);
        due("3: order of three swaps", five.order(), 24);
    }

    private static void promise4ConjugateAll() {
        PermutationGroups x = group(SWAP_01, TURN_012);
        for (int h : NO_PERMUTATIONS) {
            due("4: conjugateAll(" + h + ")", x.conjugateAll(h), BAD_ARG);
        }
        due("4: answer", x.conjugateAll(TURN_ALL), 2);
        // h^-1 g h has the cycles of g with every point x in the place of it x^h.
        due("4: the swap of 1 and 2", x.has(SWAP_12), true);
        due("4: not the swap of 0 and 1", x.has(SWAP_01), false);
        due("4: point 0 rests", x.orbit(0), set(0));
        due("4: orbit of 1", x.orbit(1), set(1, 2, 3));
        due("4: the cycle 1 2 3", x.remove(), perm(0, 2, 3, 1, 4, 5));
        due("4: the other generator too", x.remove(), SWAP_12);
        PermutationGroups back = group(TURN_ALL);
        due("4: reversed", back.conjugateAll(REVERSE), 1);
        due("4: is the inverse", back.remove(), TURN_ALL_BACK);
        PermutationGroups five = group(SWAP_01, SWAP_01, SWAP_01, SWAP_01, SWAP_01);
        due("4: five", five.conjugateAll(TURN_012), 5);
        for (int i = 0; i < 5; i++) {
            due("4: each of five", five.remove(), SWAP_12);
        }
    }

    private static void promise5Generators() {
        PermutationGroups x = new PermutationGroups();
        for (int i = 1; i <= 5; i++) {
            x.add(IDENTITY);
            due("5: after add " + i, x.generators(), i);
        }
        x.add(IDENTITY);
        due("5: after a refused add", x.generators(), 5);
        x.conjugateAll(TURN_ALL);
        due("5: after conjugateAll", x.generators(), 5);
        for (int i = 4; i >= 0; i--) {
            x.remove();
            due("5: after remove", x.generators(), i);
        }
    }

    private static void promise6Product() {
        PermutationGroups x = new PermutationGroups();
        due("6: left one first", x.product(SWAP_01, SWAP_12), TURN_021);
        due("6: the other way round", x.product(SWAP_12, SWAP_01), TURN_012);
        due("6: identity left", x.product(IDENTITY, TURN_ALL), TURN_ALL);
        due("6: identity right", x.product(TURN_ALL, IDENTITY), TURN_ALL);
        due("6: to identity", x.product(TURN_ALL, TURN_ALL_BACK), IDENTITY);
        due("6: least times least", x.product(REVERSE, REVERSE), IDENTITY);
        for (int g : NO_PERMUTATIONS) {
            due("6: left " + g, x.product(g, TURN_ALL), BAD_ARG);
            due("6: right " + g, x.product(TURN_ALL, g), BAD_ARG);
            due("6: both " + g, x.product(g, g), BAD_ARG);
        }
        due("6: no generator comes of it", x.generators(), 0);
    }

    private static void promise7Inverse() {
        PermutationGroups x = new PermutationGroups();
        due("7: of a cycle of six", x.inverse(TURN_ALL), TURN_ALL_BACK);
        due("7: of a cycle of three", x.inverse(TURN_012), TURN_021);
        due("7: of a swap", x.inverse(SWAP_45), SWAP_45);
        due("7: of the identity", x.inverse(IDENTITY), IDENTITY);
        due("7: of the least", x.inverse(REVERSE), REVERSE);
        due("7: of a mixed one", x.inverse(perm(2, 0, 1, 4, 5, 3)), perm(1, 2, 0, 5, 3, 4));
        for (int g : NO_PERMUTATIONS) {
            due("7: inverse(" + g + ")", x.inverse(g), BAD_ARG);
        }
    }

    private static void promise8Order() {
        due("8: swap", group(SWAP_01).order(), 2);
        due("8: cycle of five", group(TURN_01234).order(), 5);
        due("8: cycle of six", group(TURN_ALL).order(), 6);
        due("8: apart", group(TURN_012, TURN_345).order(), 9);
        due("8: hexagon", hexagon().order(), 12);
        due("8: four points", group(SWAP_01, TURN_0123).order(), 24);
        due("8: even on five points", group(TURN_012, TURN_01234).order(), 60);
        due("8: five points", group(SWAP_01, TURN_01234).order(), 120);
        due("8: even", group(TURN_012, perm(0, 2, 3, 4, 5, 1)).order(), 360);
        due("8: everything", everything().order(), 720);
        due("8: everything from five swaps",
            group(ALL_SWAPS).order(), 720);
        due("8: identity only", group(IDENTITY, IDENTITY).order(), 1);
    }

    private static void promise9Has() {
        PermutationGroups x = group(TURN_ALL);
        due("9: generator", x.has(TURN_ALL), true);
        due("9: inverse", x.has(TURN_ALL_BACK), true);
        due("9: identity", x.has(IDENTITY), true);
        due("9: square", x.has(perm(2, 3, 4, 5, 0, 1)), true);
        due("9: outside", x.has(MIRROR), false);
        due("9: the least outside", x.has(REVERSE), false);
        due("9: the least in hexagon", hexagon().has(REVERSE), true);
        for (int g : NO_PERMUTATIONS) {
            due("9: has(" + g + ")", x.has(g), false);
            due("9: everything, has(" + g + ")", everything().has(g), false);
        }
    }

    private static void promise10Orbit() {
        PermutationGroups x = group(SWAP_01, TURN_345);
        due("10: of 0", x.orbit(0), set(0, 1));
        due("10: of 1", x.orbit(1), set(0, 1));
        due("10: of 2", x.orbit(2), set(2));
        due("10: of 5", x.orbit(5), set(3, 4, 5));
        // A chain of swaps reaches the far end only by a product of several generators.
        due("10: chain", group(SWAP_01, SWAP_12, SWAP_23).orbit(0), set(0, 1, 2, 3));
        due("10: everything", everything().orbit(5), 63);
        for (int point : NO_POINTS) {
            due("10: orbit(" + point + ")", x.orbit(point), BAD_ARG);
        }
    }

    private static void promise11Orbits() {
        due("11: none", new PermutationGroups().orbits(), 6);
        due("11: swap", group(SWAP_45).orbits(), 5);
        due("11: two and three", group(SWAP_01, TURN_345).orbits(), 3);
        due("11: two threes", group(TURN_012, TURN_345).orbits(), 2);
        due("11: interleaved pairs", group(perm(3, 4, 5, 0, 1, 2)).orbits(), 3);
        due("11: everything", everything().orbits(), 1);
    }

    private static void promise12Fixing() {
        PermutationGroups x = everything();
        due("12: empty set", x.fixing(0), 720);
        due("12: a point", x.fixing(set(5)), 120);
        due("12: two", x.fixing(set(0, 3)), 24);
        due("12: three", x.fixing(set(1, 3, 5)), 6);
        due("12: all", x.fixing(63), 1);
        due("12: hexagon, a point", hexagon().fixing(set(0)), 2);
        due("12: hexagon, across", hexagon().fixing(set(0, 3)), 2);
        due("12: hexagon, beside", hexagon().fixing(set(0, 1)), 1);
        due("12: kept, not fixed", group(SWAP_01).fixing(set(0, 1)), 1);
        for (int set : NO_SETS) {
            due("12: fixing(" + set + ")", x.fixing(set), BAD_ARG);
        }
    }

    private static void promise13Keeping() {
        PermutationGroups x = everything();
        due("13: empty set", x.keeping(0), 720);
        due("13: a point", x.keeping(set(5)), 120);
        due("13: two", x.keeping(set(0, 3)), 48);
        due("13: three", x.keeping(set(1, 3, 5)), 36);
        due("13: all", x.keeping(63), 720);
        due("13: hexagon, across", hexagon().keeping(set(0, 3)), 4);
        due("13: hexagon, beside", hexagon().keeping(set(0, 1)), 2);
        due("13: hexagon, triangle", hexagon().keeping(set(0, 2, 4)), 6);
        due("13: swapped", group(SWAP_01).keeping(set(0, 1)), 2);
        for (int set : NO_SETS) {
            due("13: keeping(" + set + ")", x.keeping(set), BAD_ARG);
        }
    }

    private static void promise14Images() {
        PermutationGroups x = everything();
        due("14: empty set", x.images(0), 1);
        due("14: a point", x.images(set(5)), 6);
        due("14: two", x.images(set(4, 5)), 15);
        due("14: three", x.images(set(1, 3, 5)), 20);
        due("14: five", x.images(set(0, 1, 2, 3, 4)), 6);
        due("14: all", x.images(63), 1);
        due("14: hexagon, across", hexagon().images(set(0, 3)), 3);
        due("14: hexagon, triangle", hexagon().images(set(0, 2, 4)), 2);
        due("14: new object", new PermutationGroups().images(set(2, 5)), 1);
        for (int set : NO_SETS) {
            due("14: images(" + set + ")", x.images(set), BAD_ARG);
        }
    }

    private static void promise15Commuting() {
        PermutationGroups x = everything();
        due("15: identity", x.commuting(IDENTITY), 720);
        due("15: swap", x.commuting(SWAP_01), 48);
        due("15: cycle of three", x.commuting(TURN_012), 18);
        due("15: cycle of six", x.commuting(TURN_ALL), 6);
        due("15: outside, apart", group(SWAP_01).commuting(TURN_345), 2);
        due("15: outside, entangled", group(SWAP_01).commuting(TURN_012), 1);
        due("15: outside, hexagon", hexagon().commuting(SWAP_01), 2);
        for (int g : NO_PERMUTATIONS) {
            due("15: commuting(" + g + ")", x.commuting(g), BAD_ARG);
        }
    }

    private static void promise16Alike() {
        PermutationGroups x = everything();
        due("16: swaps", x.alike(SWAP_01, SWAP_45), true);
        due("16: swap and cycle", x.alike(SWAP_01, TURN_012), false);
        due("16: itself, by the identity", new PermutationGroups().alike(TURN_ALL, TURN_ALL), true);
        due("16: others in the least group", new PermutationGroups().alike(SWAP_01, SWAP_45), false);
        // The turns are alike by the swap, but not within the group that they make.
        due("16: turns, with a swap", group(SWAP_01, TURN_012).alike(TURN_012, TURN_021), true);
        due("16: turns, without", group(TURN_012).alike(TURN_012, TURN_021), false);
        due("16: outside", group(TURN_012).alike(SWAP_01, SWAP_12), true);
        due("16: outside, too far", group(TURN_012).alike(SWAP_01, SWAP_23), false);
        due("16: by a turn of four", group(TURN_0123).alike(SWAP_01, SWAP_23), true);
        for (int g : NO_PERMUTATIONS) {
            due("16: left " + g, x.alike(g, SWAP_01), false);
            due("16: right " + g, x.alike(SWAP_01, g), false);
            due("16: both " + g, x.alike(g, g), false);
        }
        // Too great, but with the six lowest digits of a permutation.
        due("16: left too great", x.alike(46656 + SWAP_01, SWAP_01), false);
        due("16: right too great", x.alike(SWAP_01, 46656 + SWAP_01), false);
    }

    private static void promise17Centre() {
        due("17: swap", group(SWAP_01).centre(), 2);
        due("17: three points", group(SWAP_01, TURN_012).centre(), 1);
        due("17: square", group(TURN_0123, perm(0, 3, 2, 1, 4, 5)).centre(), 2);
        due("17: hexagon", hexagon().centre(), 2);
        due("17: commutative", group(TURN_012, TURN_345).centre(), 9);
        due("17: three points and a swap", group(SWAP_01, TURN_012, SWAP_45).centre(), 2);
        due("17: the fifth counts", group(SWAP_45, IDENTITY, SWAP_01, IDENTITY, TURN_012).centre(), 2);
        due("17: everything", everything().centre(), 1);
    }

    private static void promise18Commutative() {
        due("18: cycle", group(TURN_ALL).commutative(), true);
        due("18: apart", group(SWAP_01, SWAP_23, SWAP_45).commutative(), true);
        due("18: equal", group(TURN_ALL, TURN_ALL_BACK, TURN_ALL).commutative(), true);
        due("18: hexagon", hexagon().commutative(), false);
        due("18: first and last differ", group(SWAP_01, SWAP_45, SWAP_12).commutative(), false);
        due("18: second and last differ", group(SWAP_45, SWAP_01, SWAP_12).commutative(), false);
        due("18: the last two of five differ",
            group(IDENTITY, SWAP_45, SWAP_45, SWAP_01, SWAP_12).commutative(), false);
        due("18: everything", everything().commutative(), false);
    }

    private static void promise19Carrier() {
        PermutationGroups x = everything();
        due("19: 0 to 5", x.carrier(0, 5), REVERSE);
        due("19: 5 to 5", x.carrier(5, 5), perm(4, 3, 2, 1, 0, 5));
        due("19: 0 to 0", x.carrier(0, 0), perm(0, 5, 4, 3, 2, 1));
        due("19: swap", group(SWAP_01).carrier(1, 0), SWAP_01);
        due("19: a point that rests", group(SWAP_01).carrier(3, 3), SWAP_01);
        due("19: identity", group(SWAP_01).carrier(0, 0), IDENTITY);
        due("19: direction", group(TURN_012).carrier(0, 1), TURN_012);
        due("19: direction back", group(TURN_012).carrier(1, 0), TURN_021);
        due("19: none", group(SWAP_01).carrier(1, 2), NONE);
        due("19: none, new object", new PermutationGroups().carrier(5, 0), NONE);
        for (int point : NO_POINTS) {
            due("19: carrier(" + point + ", 0)", x.carrier(point, 0), BAD_ARG);
            due("19: carrier(0, " + point + ")", x.carrier(0, point), BAD_ARG);
        }
    }

    private static void promise20Normaliser() {
        due("20: swap", group(SWAP_01).normaliser(), 48);
        due("20: cycle of five", group(TURN_01234).normaliser(), 20);
        due("20: cycle of six", group(TURN_ALL).normaliser(), 12);
        due("20: two cycles of three", group(TURN_012, TURN_345).normaliser(), 72);
        due("20: four points", group(SWAP_01, TURN_0123).normaliser(), 48);
        due("20: even", group(TURN_012, perm(0, 2, 3, 4, 5, 1)).normaliser(), 720);
        due("20: the fifth counts", group(IDENTITY, IDENTITY, IDENTITY, IDENTITY, SWAP_01).normaliser(), 48);
        due("20: everything", everything().normaliser(), 720);
        due("20: none", new PermutationGroups().normaliser(), 720);
    }

    private static void promise21OrderAndLimits() {
        // Nothing is carried from 0 to 1 here either, so a wrong argument must win over NONE.
        PermutationGroups x = new PermutationGroups();
        for (int point : NO_POINTS) {
            due("21: carrier(" + point + ", 1)", x.carrier(point, 1), BAD_ARG);
            due("21: carrier(1, " + point + ")", x.carrier(1, point), BAD_ARG);
            due("21: carrier(" + point + " twice)", x.carrier(point, point), BAD_ARG);
        }
        due("21: carrier(0, 1)", x.carrier(0, 1), NONE);
    }

    private static void objectsStandAlone() {
        PermutationGroups one = group(SWAP_01);
        PermutationGroups other = everything();
        due("alone: one", one.order(), 2);
        due("alone: other", other.order(), 720);
        other.remove();
        other.remove();
        due("alone: one after", one.order(), 2);
        due("alone: one has", one.has(SWAP_01), true);
        due("alone: other has not", other.has(SWAP_01), false);
    }
}
