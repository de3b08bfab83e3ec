/**
 * The group that up to five permutations of the points 0 to 5 generate.
 * A permutation is the number whose six digits in base 6 are the images of the points, lowest
 * digit first; a set of points is a mask of six bits.
 */
public final class PermutationGroups {
    public static final int BAD_ARG = -1;
    public static final int FULL = -2;
    public static final int NONE = -4;

    private static final int POINTS = 6;
    private static final int SETS = 64;
    private static final int ALL_POINTS = 63;
    private static final int CODES = 46656;
    private static final int PERMUTATIONS = 720;
    private static final int MOST_GENERATORS = 5;
    private static final int IDENTITY = 44790;

    private final int[] generator = new int[MOST_GENERATORS];
    private int generatorCount = 0;

    // The group is held whole, as a list and as marks, and made anew whenever a generator changes.
    private final int[] element = new int[PERMUTATIONS];
    private int elementCount = 0;
    private final boolean[] inGroup = new boolean[CODES];

    public PermutationGroups() {
        rebuildGroup();
    }

    public int add(int g) {
        if (!isPermutation(g)) {
            return BAD_ARG;
        }
        if (generatorCount >= MOST_GENERATORS) {
            return FULL;
        }
        generator[generatorCount] = g;
        generatorCount++;
        rebuildGroup();
        return generatorCount;
    }

    public int remove() {
        if (generatorCount <= 0) {
            return NONE;
        }
        generatorCount--;
        int removed = generator[generatorCount];
        rebuildGroup();
        return removed;
    }

    public int conjugateAll(int h) {
        if (!isPermutation(h)) {
            return BAD_ARG;
        }
        for (int i = 0; i < generatorCount; i++) {
            generator[i] = conjugate(generator[i], h);
        }
        rebuildGroup();
        return generatorCount;
    }

    public int generators() {
        return generatorCount;
    }

    public int product(int g, int h) {
        if (!isPermutation(g) || !isPermutation(h)) {
            return BAD_ARG;
        }
        return compose(g, h);
    }

    public int inverse(int g) {
        if (!isPermutation(g)) {
            return BAD_ARG;
        }
        return invert(g);
    }

    public int order() {
        return elementCount;
    }

    public boolean has(int g) {
        return isPermutation(g) && inGroup[g];
    }

    public int orbit(int x) {
        if (!isPoint(x)) {
            return BAD_ARG;
        }
        return orbitOf(x);
    }

    public int orbits() {
        int found = 0;
        int covered = 0;
        for (int x = 0; x < POINTS; x++) {
            if ((covered >> x & 1) == 0) {
                covered |= orbitOf(x);
                found++;
            }
        }
        return found;
    }

    public int fixing(int set) {
        if (!isSet(set)) {
            return BAD_ARG;
        }
        int found = 0;
        for (int i = 0; i < elementCount; i++) {
            if (fixesEachPoint(element[i], set)) {
                found++;
            }
        }
        return found;
    }

    public int keeping(int set) {
        if (!isSet(set)) {
            return BAD_ARG;
        }
        int found = 0;
        for (int i = 0; i < elementCount; i++) {
            if (imageOfSet(element[i], set) == set) {
                found++;
            }
        }
        return found;
    }

    public int images(int set) {
        if (!isSet(set)) {
            return BAD_ARG;
        }
        // There are 64 sets, so the bits of one long can mark those that were met.
        long met = 0L;
        for (int i = 0; i < elementCount; i++) {
            met |= 1L << imageOfSet(element[i], set);
        }
        return countBits(met);
    }

    public int commuting(int g) {
        if (!isPermutation(g)) {
            return BAD_ARG;
        }
        int found = 0;
        for (int i = 0; i < elementCount; i++) {
            if (commute(g, element[i])) {
                found++;
            }
        }
        return found;
    }

    public boolean alike(int g, int k) {
        if (!isPermutation(g) || !isPermutation(k)) {
            return false;
        }
        for (int i = 0; i < elementCount; i++) {
            if (conjugate(g, element[i]) == k) {
                return true;
            }
        }
        return false;
    }

    public int centre() {
        int found = 0;
        for (int i = 0; i < elementCount; i++) {
            if (commutesWithGenerators(element[i])) {
                found++;
            }
        }
        return found;
    }

    public boolean commutative() {
        // Products of generators commute as soon as the generators do.
        for (int i = 0; i < generatorCount; i++) {
            if (!commutesWithGenerators(generator[i])) {
                return false;
            }
        }
        return true;
    }

    public int carrier(int x, int y) {
        if (!isPoint(x) || !isPoint(y)) {
            return BAD_ARG;
        }
        int least = NONE;
        for (int i = 0; i < elementCount; i++) {
            int g = element[i];
            if (imageOfPoint(g, x) == y && (least == NONE || g < least)) {
                least = g;
            }
        }
        return least;
    }

    public int normaliser() {
        int found = 0;
        for (int h = 0; h < CODES; h++) {
            if (isPermutation(h) && carriesGroupIntoItself(h)) {
                found++;
            }
        }
        return found;
    }

    private void rebuildGroup() {
        for (int i = 0; i < elementCount; i++) {
            inGroup[element[i]] = false;
        }
        elementCount = 0;
        include(IDENTITY);
        // Inverses need no step of their own: in a finite group each is a power of its generator.
        for (int i = 0; i < PERMUTATIONS && i < elementCount; i++) {
            for (int j = 0; j < generatorCount; j++) {
                int next = compose(element[i], generator[j]);
                include(next);
            }
        }
    }

    private void include(int g) {
        if (!inGroup[g] && elementCount < PERMUTATIONS) {
            inGroup[g] = true;
            element[elementCount] = g;
            elementCount++;
        }
    }

    private int orbitOf(int x) {
        int reached = 0;
        for (int i = 0; i < elementCount; i++) {
            reached |= 1 << imageOfPoint(element[i], x);
        }
        return reached;
    }

    // Enough for commuting with all of G, whose members are products of generators.
    private boolean commutesWithGenerators(int g) {
        for (int i = 0; i < generatorCount; i++) {
            if (!commute(g, generator[i])) {
                return false;
            }
        }
        return true;
    }

    // Looking at the generators is enough: h^-1 (a b) h is the product of h^-1 a h and h^-1 b h.
    private boolean carriesGroupIntoItself(int h) {
        for (int i = 0; i < generatorCount; i++) {
            int carried = conjugate(generator[i], h);
            if (!inGroup[carried]) {
                return false;
            }
        }
        return true;
    }

    private static boolean isPoint(int x) {
        return x >= 0 && x < POINTS;
    }

    private static boolean isSet(int set) {
        return set >= 0 && set < SETS;
    }

    private static boolean isPermutation(int g) {
        if (g < 0 || g >= CODES) {
            return false;
        }
        int reached = 0;
        int rest = g;
        for (int x = 0; x < POINTS; x++) {
            reached |= 1 << rest % POINTS;
            rest /= POINTS;
        }
        return reached == ALL_POINTS;
    }

    private static int imageOfPoint(int g, int x) {
        int rest = g;
        for (int i = 0; i < x; i++) {
            rest /= POINTS;
        }
        return rest % POINTS;
    }

    private static int imageOfSet(int g, int set) {
        int image = 0;
        int rest = g;
        for (int x = 0; x < POINTS; x++) {
            if ((set >> x & 1) == 1) {
                image |= 1 << rest % POINTS;
            }
            rest /= POINTS;
        }
        return image;
    }

    private static boolean fixesEachPoint(int g, int set) {
        int rest = g;
        for (int x = 0; x < POINTS; x++) {
            if ((set >> x & 1) == 1 && rest % POINTS != x) {
                return false;
            }
            rest /= POINTS;
        }
        return true;
    }

    private static int compose(int g, int h) {
        int result = 0;
        int weight = 1;
        int rest = g;
        for (int x = 0; x < POINTS; x++) {
            int image = imageOfPoint(h, rest % POINTS);
            result += weight * image;
            weight *= POINTS;
            rest /= POINTS;
        }
        return result;
    }

    private static int invert(int g) {
        int result = 0;
        int rest = g;
        for (int x = 0; x < POINTS; x++) {
            result += x * weightOf(rest % POINTS);
            rest /= POINTS;
        }
        return result;
    }

    private static int weightOf(int x) {
        int weight = 1;
        for (int i = 0; i < x; i++) {
            weight *= POINTS;
        }
        return weight;
    }

    private static int conjugate(int g, int h) {
        int back = invert(h);
        int there = compose(back, g);
        return compose(there, h);
    }

    private static boolean commute(int g, int h) {
        return compose(g, h) == compose(h, g);
    }

    private static int countBits(long bits) {
        int count = 0;
        for (int i = 0; i < SETS; i++) {
            if ((bits >>> i & 1L) == 1L) {
                count++;
            }
        }
        return count;
    }
}
