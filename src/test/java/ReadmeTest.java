import java.io.IOException;
import java.lang.reflect.Method;
import java.lang.reflect.Modifier;
import java.nio.file.Files;
import java.nio.file.Path;
import java.util.Arrays;
import java.util.HashMap;
import java.util.Map;
import java.util.Set;
import java.util.TreeSet;
import java.util.regex.Matcher;
import java.util.regex.Pattern;

/** What README.md shows of the class: the answers in its examples, and the numbers in its tables. */
public final class ReadmeTest extends Samples {
    private static final Pattern MAKING = Pattern.compile("PermutationGroups (\\w+) = new PermutationGroups\\(\\);");
    private static final Pattern ASKING = Pattern.compile(
        "(\\w+)\\.(\\w+)\\(((?:-?\\d+(?:, -?\\d+)*)?)\\); +// (-?\\d+|true|false|[A-Z_]+)(?:: .+)?");
    private static final Pattern PERMUTATION_ROW = Pattern.compile("\\| (\\d(?: \\d){5}) \\| (\\d{4,5}) \\|.*");
    private static final Pattern SET_ROW = Pattern.compile("\\| (none|\\d(?: \\d)*) \\| (\\d{1,2}) \\|.*");
    private static final Pattern CODE_ROW = Pattern.compile("\\| `([A-Z_]+)` \\| (-\\d) \\|.*");
    private static final Pattern CALL_ROW = Pattern.compile("\\| `(\\w+)\\([a-z, ]*\\)` \\|.*");

    private static final Map<String, PermutationGroups> OBJECTS = new HashMap<>();
    /** All that was met: names of methods in examples and in rows, names of codes, kinds of rows. */
    private static final Set<String> MET = new TreeSet<>();

    public static void main(String[] args) throws IOException, ReflectiveOperationException {
        boolean inExample = false;
        String before = "";
        for (String line : Files.readAllLines(Path.of("README.md"))) {
            boolean headOfTable = before.isBlank() || line.startsWith("|---");
            if (line.startsWith("```")) {
                inExample = line.equals("```java");
            } else if (inExample) {
                sentence("README.md: " + line);
                readExample(line);
            } else if (line.startsWith("|") && !headOfTable) {
                sentence("README.md: " + line);
                readRow(line);
            }
            before = line;
        }
        sentence("README.md shows the whole class");
        everythingWasMet();
        end();
    }

    private static void readExample(String line) throws ReflectiveOperationException {
        Matcher making = MAKING.matcher(line);
        Matcher asking = ASKING.matcher(line);
        if (making.matches()) {
            OBJECTS.put(making.group(1), new PermutationGroups());
            due("a new object", OBJECTS.get(making.group(1)).order(), 1);
        } else if (asking.matches() && OBJECTS.containsKey(asking.group(1))) {
            ask(OBJECTS.get(asking.group(1)), asking.group(2), asking.group(3), asking.group(4));
        } else {
            due("a new object, or a call of one with its answer", false, true);
        }
    }

    private static void ask(PermutationGroups x, String name, String arguments, String answer)
            throws ReflectiveOperationException {
        Object[] numbers = Arrays.stream(arguments.split(", ")).filter(text -> !text.isEmpty()).map(Integer::valueOf)
            .toArray();
        Class<?>[] types = new Class<?>[numbers.length];
        Arrays.fill(types, int.class);
        Object got = PermutationGroups.class.getMethod(name, types).invoke(x, numbers);
        MET.add("example of " + name);
        due("the call", number(got.toString()), number(answer));
        due("true or false", answer.matches("true|false"), got instanceof Boolean);
    }

    private static long number(String answer) throws ReflectiveOperationException {
        if (answer.matches("true|false")) {
            return answer.equals("true") ? 1 : 0;
        }
        return answer.matches("[A-Z_]+") ? constant(answer) : Long.parseLong(answer);
    }

    private static int constant(String name) throws ReflectiveOperationException {
        return PermutationGroups.class.getField(name).getInt(null);
    }

    private static void readRow(String line) throws ReflectiveOperationException {
        Matcher permutation = PERMUTATION_ROW.matcher(line);
        Matcher set = SET_ROW.matcher(line);
        Matcher code = CODE_ROW.matcher(line);
        Matcher call = CALL_ROW.matcher(line);
        if (permutation.matches()) {
            int number = Integer.parseInt(permutation.group(2));
            MET.add("row of a permutation");
            due("the number", perm(points(permutation.group(1))), number);
            due(new PermutationGroups(), Call.add(number), 1);
        } else if (set.matches()) {
            int number = Integer.parseInt(set.group(2));
            MET.add("row of a set");
            due("the number", set(points(set.group(1))), number);
            due(new PermutationGroups(), Call.images(number), 1);
        } else if (code.matches()) {
            MET.add("row of " + code.group(1));
            due(code.group(1), constant(code.group(1)), Integer.parseInt(code.group(2)));
        } else {
            boolean known = call.matches() && publicMethods().contains(call.group(1));
            due("a row of a permutation, a set, a code or a call", known, true);
            if (known) {
                MET.add("row of " + call.group(1));
            }
        }
    }

    private static int[] points(String text) {
        return text.equals("none") ? new int[0] : Arrays.stream(text.split(" ")).mapToInt(Integer::parseInt).toArray();
    }

    private static Set<String> publicMethods() {
        Set<String> names = new TreeSet<>();
        for (Method method : PermutationGroups.class.getDeclaredMethods()) {
            if (Modifier.isPublic(method.getModifiers())) {
                names.add(method.getName());
            }
        }
        return names;
    }

    private static void everythingWasMet() {
        Set<String> want = new TreeSet<>(Set.of("row of a permutation", "row of a set", "row of BAD_ARG", "row of FULL",
            "row of NONE"));
        for (String method : publicMethods()) {
            want.add("row of " + method);
            want.add("example of " + method);
        }
        for (String name : want) {
            due("README.md has a " + name, MET.contains(name), true);
        }
    }
}
