/** What the tests share: telling wrong answers, and writing permutations and sets readably. */
final class Due {
    private static final int MOST_TOLD = 40;
    private static int asked = 0;
    private static int wrong = 0;

    private Due() {
    }

    static void due(String call, long got, long want) {
        asked++;
        if (got == want) {
            return;
        }
        wrong++;
        if (wrong <= MOST_TOLD) {
            System.out.println(call + " answered " + got + ", due is " + want);
        }
    }

    static void due(String call, boolean got, boolean want) {
        due(call, got ? 1L : 0L, want ? 1L : 0L);
    }

    /** Ends the test: exit code 1 if an answer was wrong, or if nothing was asked at all. */
    static void end() {
        System.out.println(asked + " answers, " + wrong + " of them wrong");
        if (wrong != 0 || asked == 0) {
            System.exit(1);
        }
    }

    /** The number of the permutation that takes 0, 1, .. 5 to these points. */
    static int perm(int... images) {
        int code = 0;
        for (int x = images.length - 1; x >= 0; x--) {
            code = code * 6 + images[x];
        }
        return code;
    }

    static int set(int... points) {
        int set = 0;
        for (int x : points) {
            set |= 1 << x;
        }
        return set;
    }

    static PermutationGroups group(int... generators) {
        PermutationGroups group = new PermutationGroups();
        for (int g : generators) {
            group.add(g);
        }
        return group;
    }
}
