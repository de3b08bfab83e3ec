import java.util.Arrays;
import java.util.stream.IntStream;

/** The permutations, groups and wrong arguments that the tests use by name. */
abstract class Samples extends Due {
    static final int BAD_ARG = -1;
    static final int FULL = -2;
    static final int NONE = -4;

    /** The greatest number that is a permutation. */
    static final int IDENTITY = perm(0, 1, 2, 3, 4, 5);
    /** The least number that is a permutation. */
    static final int REVERSE = perm(5, 4, 3, 2, 1, 0);
    static final int SWAP_01 = perm(1, 0, 2, 3, 4, 5);
    static final int SWAP_12 = perm(0, 2, 1, 3, 4, 5);
    static final int SWAP_23 = perm(0, 1, 3, 2, 4, 5);
    static final int SWAP_34 = perm(0, 1, 2, 4, 3, 5);
    static final int SWAP_45 = perm(0, 1, 2, 3, 5, 4);
    static final int TURN_012 = perm(1, 2, 0, 3, 4, 5);
    static final int TURN_021 = perm(2, 0, 1, 3, 4, 5);
    static final int TURN_345 = perm(0, 1, 2, 4, 5, 3);
    static final int TURN_0123 = perm(1, 2, 3, 0, 4, 5);
    static final int TURN_01234 = perm(1, 2, 3, 4, 0, 5);
    static final int TURN_ALL = perm(1, 2, 3, 4, 5, 0);
    static final int TURN_ALL_BACK = perm(5, 0, 1, 2, 3, 4);
    static final int MIRROR = perm(0, 5, 4, 3, 2, 1);

    static final int[] ALL_SWAPS = {SWAP_01, SWAP_12, SWAP_23, SWAP_34, SWAP_45};

    static final int[] ALL_PERMUTATIONS = IntStream.range(0, 46656).filter(Samples::namesEachPoint).toArray();

    /** No permutations, being less than the least one. */
    static final int[] TOO_SMALL = {Integer.MIN_VALUE, -46656, -44790, -1865, -1, 0, 1, 7, 1864};
    /** No permutations, being more than the greatest one; some have a permutation's six lowest digits. */
    static final int[] TOO_LARGE = {
        44791, 46655, 46656, 46656 + 1865, 46656 + 44785, 46656 + 44790, 2 * 46656 + 1865, 1 << 30, Integer.MAX_VALUE
    };
    /** No permutations, though between the least and the greatest one: they name a point twice. */
    static final int[] POINT_TWICE = pointTwice();
    static final int[] NO_PERMUTATIONS = joined(TOO_SMALL, TOO_LARGE, POINT_TWICE);

    static final int[] NO_POINTS = {Integer.MIN_VALUE, -6, -1, 6, 7, 32, 37, 63, 64, Integer.MAX_VALUE};
    static final int[] NO_SETS = {Integer.MIN_VALUE, -64, -63, -1, 64, 65, 127, 128, 1 << 30, Integer.MAX_VALUE};

    static PermutationGroups everything() {
        return group(SWAP_01, TURN_ALL);
    }

    static PermutationGroups hexagon() {
        return group(TURN_ALL, MIRROR);
    }

    /** Every pair of points has one image: once the lesser point's, once the greater one's. */
    private static int[] pointTwice() {
        IntStream.Builder found = IntStream.builder();
        for (int lesser = 0; lesser < 6; lesser++) {
            for (int greater = lesser + 1; greater < 6; greater++) {
                int[] images = {0, 1, 2, 3, 4, 5};
                images[greater] = images[lesser];
                found.add(perm(images));
                int[] backwards = {5, 4, 3, 2, 1, 0};
                backwards[greater] = backwards[lesser];
                found.add(perm(backwards));
            }
        }
        return found.build().toArray();
    }

    private static boolean namesEachPoint(int code) {
        String digits = Integer.toString(code + 46656, 6);
        return digits.substring(1).chars().distinct().count() == 6;
    }

    static int[] joined(int[]... parts) {
        return Arrays.stream(parts).flatMapToInt(Arrays::stream).toArray();
    }
}
