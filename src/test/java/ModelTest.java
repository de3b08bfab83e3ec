import java.util.ArrayList;
import java.util.Arrays;
import java.util.List;
import java.util.TreeSet;
import java.util.function.IntPredicate;
import java.util.stream.IntStream;

/**
 * Compares long runs of calls with a second program that follows the document's words literally:
 * over all pairs of members, with tables of all 720 permutations, and with no short cut.
 */
public final class ModelTest {
    private static final int RUNS = 220;
    // So few that the whole comparison at the end still lies within the 512 calls of an object.
    private static final int CALLS = 160;
    private static final int LONG_RUNS = 60;
    private static final int MOST_CALLS = 512;

    private static final int[][] PERMS = allPermutations();
    private static final int[] INDEX = new int[46656];
    private static final int[][] PRODUCT = new int[720][720];
    private static final int[] INVERSE = new int[720];

    // A fixed sequence of numbers stands in for chance, so that every run of the test is the same.
    private static long state = 20261115L;

    private final List<Integer> generators = new ArrayList<>();
    private int[] group;
    private boolean[] inGroup;

    private ModelTest() {
        makeGroup();
    }

    public static void main(String[] args) {
        fillTables();
        everyNumberAsPermutation();
        everyGroupOfOneGenerator();
        for (int run = 0; run < RUNS; run++) {
            mixedRun(run);
        }
        for (int run = 0; run < LONG_RUNS; run++) {
            runToTheLastCall(run);
        }
        Due.end();
    }

    private static int[][] allPermutations() {
        List<int[]> found = new ArrayList<>();
        for (int code = 0; code < 46656; code++) {
            int[] images = new int[6];
            TreeSet<Integer> different = new TreeSet<>();
            int rest = code;
            for (int x = 0; x < 6; x++) {
                images[x] = rest % 6;
                different.add(images[x]);
                rest /= 6;
            }
            if (different.size() == 6) {
                found.add(images);
            }
        }
        return found.toArray(new int[0][]);
    }

    private static void fillTables() {
        Arrays.fill(INDEX, -1);
        for (int i = 0; i < 720; i++) {
            INDEX[Due.perm(PERMS[i])] = i;
        }
        for (int i = 0; i < 720; i++) {
            for (int j = 0; j < 720; j++) {
                int[] images = new int[6];
                for (int x = 0; x < 6; x++) {
                    images[x] = PERMS[j][PERMS[i][x]];
                }
                PRODUCT[i][j] = INDEX[Due.perm(images)];
                if (Due.perm(images) == 44790) {
                    INVERSE[i] = j;
                }
            }
        }
    }

    private static int index(int code) {
        return code < 0 || code >= 46656 ? -1 : INDEX[code];
    }

    private static int code(int index) {
        return Due.perm(PERMS[index]);
    }

    /** Grows the set by all products of two members until that adds no more. */
    private void makeGroup() {
        boolean[] in = new boolean[720];
        in[INDEX[44790]] = true;
        for (int g : generators) {
            in[g] = true;
            in[INVERSE[g]] = true;
        }
        int[] members = marked(in);
        int before = 0;
        while (members.length != before) {
            before = members.length;
            for (int a : members) {
                for (int b : members) {
                    in[PRODUCT[a][b]] = true;
                }
            }
            members = marked(in);
        }
        group = members;
        inGroup = in;
    }

    private static int[] marked(boolean[] in) {
        return IntStream.range(0, 720).filter(i -> in[i]).toArray();
    }

    private int count(IntPredicate wanted) {
        return (int) IntStream.of(group).filter(wanted).count();
    }

    private static int conjugate(int g, int h) {
        return PRODUCT[PRODUCT[INVERSE[h]][g]][h];
    }

    private static int imageOfSet(int set, int g) {
        int image = 0;
        for (int x = 0; x < 6; x++) {
            if ((set & 1 << x) != 0) {
                image |= 1 << PERMS[g][x];
            }
        }
        return image;
    }

    private int add(int g) {
        if (index(g) < 0) {
            return -1;
        }
        if (generators.size() == 5) {
            return -2;
        }
        generators.add(index(g));
        makeGroup();
        return generators.size();
    }

    private int remove() {
        if (generators.isEmpty()) {
            return -4;
        }
        int last = generators.remove(generators.size() - 1);
        makeGroup();
        return code(last);
    }

    private int conjugateAll(int h) {
        if (index(h) < 0) {
            return -1;
        }
        generators.replaceAll(g -> conjugate(g, index(h)));
        makeGroup();
        return generators.size();
    }

    private boolean has(int g) {
        return index(g) >= 0 && inGroup[index(g)];
    }

    private int orbit(int x) {
        if (x < 0 || x > 5) {
            return -1;
        }
        int orbit = 0;
        for (int g : group) {
            orbit |= 1 << PERMS[g][x];
        }
        return orbit;
    }

    private int orbits() {
        TreeSet<Integer> different = new TreeSet<>();
        for (int x = 0; x < 6; x++) {
            different.add(orbit(x));
        }
        return different.size();
    }

    private int fixing(int set) {
        if (set < 0 || set > 63) {
            return -1;
        }
        return count(g -> IntStream.range(0, 6).allMatch(x -> (set & 1 << x) == 0 || PERMS[g][x] == x));
    }

    private int keeping(int set) {
        if (set < 0 || set > 63) {
            return -1;
        }
        return count(g -> imageOfSet(set, g) == set);
    }

    private int images(int set) {
        if (set < 0 || set > 63) {
            return -1;
        }
        return (int) IntStream.of(group).map(g -> imageOfSet(set, g)).distinct().count();
    }

    private int commuting(int g) {
        int i = index(g);
        if (i < 0) {
            return -1;
        }
        return count(h -> PRODUCT[i][h] == PRODUCT[h][i]);
    }

    private boolean alike(int g, int k) {
        if (index(g) < 0 || index(k) < 0) {
            return false;
        }
        return IntStream.of(group).anyMatch(h -> conjugate(index(g), h) == index(k));
    }

    private int centre() {
        return count(g -> IntStream.of(group).allMatch(h -> PRODUCT[g][h] == PRODUCT[h][g]));
    }

    private boolean commutative() {
        return centre() == group.length;
    }

    private int carrier(int x, int y) {
        if (x < 0 || x > 5 || y < 0 || y > 5) {
            return -1;
        }
        return IntStream.of(group).filter(g -> PERMS[g][x] == y).map(g -> code(g)).min().orElse(-4);
    }

    private int normaliser() {
        return (int) IntStream.range(0, 720)
            .filter(h -> IntStream.of(group).allMatch(g -> inGroup[conjugate(g, h)])).count();
    }

    private static void everyNumberAsPermutation() {
        PermutationGroups x = new PermutationGroups();
        int calls = 0;
        for (int g = -50; g < 46656 + 50; g++) {
            // An object is good for 512 calls only.
            if (calls + 5 > 512) {
                x = new PermutationGroups();
                calls = 0;
            }
            int i = index(g);
            Due.due("inverse(" + g + ")", x.inverse(g), i < 0 ? -1 : code(INVERSE[i]));
            Due.due("product(" + g + ", 1865)", x.product(g, 1865), i < 0 ? -1 : code(PRODUCT[i][INDEX[1865]]));
            Due.due("product(7465, " + g + ")", x.product(7465, g), i < 0 ? -1 : code(PRODUCT[INDEX[7465]][i]));
            Due.due("has(" + g + ")", x.has(g), g == 44790);
            Due.due("commuting(" + g + ")", x.commuting(g), i < 0 ? -1 : 1);
            calls += 5;
        }
    }

    private static void everyGroupOfOneGenerator() {
        for (int i = 0; i < 720; i++) {
            PermutationGroups x = new PermutationGroups();
            ModelTest model = new ModelTest();
            Due.due("add(" + code(i) + ")", x.add(code(i)), model.add(code(i)));
            model.compareWhole("one generator " + code(i), x);
        }
    }

    private void compareWhole(String where, PermutationGroups x) {
        Due.due(where + ": generators()", x.generators(), generators.size());
        Due.due(where + ": order()", x.order(), group.length);
        Due.due(where + ": orbits()", x.orbits(), orbits());
        Due.due(where + ": centre()", x.centre(), centre());
        Due.due(where + ": commutative()", x.commutative(), commutative());
        Due.due(where + ": normaliser()", x.normaliser(), normaliser());
        for (int a = -1; a <= 6; a++) {
            Due.due(where + ": orbit(" + a + ")", x.orbit(a), orbit(a));
            for (int b = -1; b <= 6; b++) {
                Due.due(where + ": carrier(" + a + ", " + b + ")", x.carrier(a, b), carrier(a, b));
            }
        }
        for (int set = -1; set <= 64; set++) {
            Due.due(where + ": fixing(" + set + ")", x.fixing(set), fixing(set));
            Due.due(where + ": keeping(" + set + ")", x.keeping(set), keeping(set));
            Due.due(where + ": images(" + set + ")", x.images(set), images(set));
        }
    }

    private static int below(int bound) {
        state = state * 6364136223846793005L + 1442695040888963407L;
        return (int) ((state >>> 33) % bound);
    }

    /** Permutations that commute with a chosen one: any two at large mostly generate everything. */
    private static int[] pool() {
        int chosen = below(720);
        List<Integer> found = new ArrayList<>();
        for (int i = 0; i < 720; i++) {
            if (PRODUCT[i][chosen] == PRODUCT[chosen][i]) {
                found.add(code(i));
            }
        }
        return found.stream().mapToInt(g -> g).toArray();
    }

    private static int pick(int[] pool) {
        int kind = below(12);
        if (kind == 0) {
            return below(46900) - 100;
        }
        return kind < 4 ? code(below(720)) : pool[below(pool.length)];
    }

    private static void mixedRun(int run) {
        PermutationGroups x = new PermutationGroups();
        ModelTest model = new ModelTest();
        int[] pool = pool();
        for (int call = 0; call < CALLS; call++) {
            model.compareCall("run " + run + ", call " + call, x, pool);
        }
        model.compareWhole("run " + run + ", end", x);
    }

    private static void runToTheLastCall(int run) {
        PermutationGroups x = new PermutationGroups();
        ModelTest model = new ModelTest();
        int[] pool = pool();
        for (int call = 1; call <= MOST_CALLS; call++) {
            model.compareCall("long run " + run + ", call " + call, x, pool);
        }
    }

    /** Makes one call, of a method and with arguments as they come. */
    private void compareCall(String where, PermutationGroups x, int[] pool) {
        switch (below(3)) {
            case 0 -> compareChange(where, x, pool);
            case 1 -> comparePermutations(where, x, pool);
            default -> comparePointsAndSets(where, x);
        }
    }

    private void compareChange(String where, PermutationGroups x, int[] pool) {
        int g = below(2) == 0 ? pick(pool) : pool[below(pool.length)];
        switch (below(4)) {
            case 0, 1 -> Due.due(where + ": add(" + g + ")", x.add(g), add(g));
            case 2 -> Due.due(where + ": remove()", x.remove(), remove());
            default -> Due.due(where + ": conjugateAll(" + g + ")", x.conjugateAll(g), conjugateAll(g));
        }
    }

    private void comparePermutations(String where, PermutationGroups x, int[] pool) {
        int g = pick(pool);
        int h = pick(pool);
        int k = below(2) == 0 || index(g) < 0 || index(h) < 0 ? pick(pool) : code(conjugate(index(g), index(h)));
        String told = where + ", g = " + g + ", h = " + h + ", k = " + k + ": ";
        switch (below(9)) {
            case 0 -> Due.due(told + "has(g)", x.has(g), has(g));
            case 1 -> Due.due(told + "commuting(g)", x.commuting(g), commuting(g));
            case 2 -> Due.due(told + "alike(g, k)", x.alike(g, k), alike(g, k));
            case 3 -> Due.due(told + "product(g, h)", x.product(g, h),
                index(g) < 0 || index(h) < 0 ? -1 : code(PRODUCT[index(g)][index(h)]));
            case 4 -> Due.due(told + "inverse(g)", x.inverse(g), index(g) < 0 ? -1 : code(INVERSE[index(g)]));
            case 5 -> Due.due(told + "commutative()", x.commutative(), commutative());
            case 6 -> Due.due(told + "order()", x.order(), group.length);
            case 7 -> Due.due(told + "centre()", x.centre(), centre());
            default -> Due.due(told + "normaliser()", x.normaliser(), normaliser());
        }
    }

    private void comparePointsAndSets(String where, PermutationGroups x) {
        int a = below(8) - 1;
        int b = below(8) - 1;
        int set = below(66) - 1;
        String told = where + ", a = " + a + ", b = " + b + ", set = " + set + ": ";
        switch (below(7)) {
            case 0 -> Due.due(told + "orbit(a)", x.orbit(a), orbit(a));
            case 1 -> Due.due(told + "carrier(a, b)", x.carrier(a, b), carrier(a, b));
            case 2 -> Due.due(told + "fixing(set)", x.fixing(set), fixing(set));
            case 3 -> Due.due(told + "keeping(set)", x.keeping(set), keeping(set));
            case 4 -> Due.due(told + "images(set)", x.images(set), images(set));
            case 5 -> Due.due(told + "orbits()", x.orbits(), orbits());
            default -> Due.due(told + "generators()", x.generators(), generators.size());
        }
    }
}
