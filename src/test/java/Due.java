/** What the tests share: telling wrong answers, and the sentence of the document they belong to. */
abstract class Due {
    private static final int MOST_TOLD = 40;
    private static int asked = 0;
    private static int wrong = 0;
    private static String sentence = "";
    private static int askedAtSentence = 0;

    /** From here on the answers belong to this sentence of the document, and there must be some. */
    static void sentence(String text) {
        endSentence();
        sentence = text;
        askedAtSentence = asked;
    }

    private static void endSentence() {
        if (!sentence.isEmpty() && asked == askedAtSentence) {
            tellWrong("nothing was asked");
        }
    }

    static void due(String call, long got, long want) {
        asked++;
        if (got != want) {
            tellWrong(call + " answered " + got + ", due is " + want);
        }
    }

    static void due(String call, boolean got, boolean want) {
        due(call, got ? 1L : 0L, want ? 1L : 0L);
    }

    /** Makes the call; one that throws is a wrong answer too. */
    static void due(PermutationGroups x, Call call, long want) {
        asked++;
        long got;
        try {
            got = call.on(x);
        } catch (RuntimeException | Error thrown) {
            tellWrong(call.text() + " threw " + thrown);
            return;
        }
        if (got != want) {
            tellWrong(call.text() + " answered " + got + ", due is " + want);
        }
    }

    static void due(PermutationGroups x, Call call, boolean want) {
        due(x, call, want ? 1L : 0L);
    }

    private static void tellWrong(String text) {
        wrong++;
        if (wrong <= MOST_TOLD) {
            System.out.println(sentence.isEmpty() ? text : "[" + sentence + "] " + text);
        }
    }

    /** Ends the test: exit code 1 if an answer was wrong, or if nothing was asked at all. */
    static void end() {
        endSentence();
        System.out.println(asked + " answers, " + wrong + " of them wrong");
        if (wrong != 0 || asked == 0) {
            System.exit(1);
        }
    }

    /** The number of the permutation that takes 0, 1, .. 5 to these points. */
    static int perm(int... images) {
        int code = 0;
        for (int x = images.length - 1; x >= 0; x--) {
            code = code * 6 + images[x];
        }
        return code;
    }

    static int set(int... points) {
        int set = 0;
        for (int x : points) {
            set |= 1 << x;
        }
        return set;
    }

    static PermutationGroups group(int... generators) {
        PermutationGroups group = new PermutationGroups();
        for (int g : generators) {
            group.add(g);
        }
        return group;
    }
}
