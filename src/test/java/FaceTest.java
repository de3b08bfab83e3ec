import java.lang.reflect.Constructor;
import java.lang.reflect.Field;
import java.lang.reflect.Method;
import java.lang.reflect.Modifier;
import java.util.Set;
import java.util.TreeSet;

/** The class shows the members of the document's public face, and no other that is not private. */
public final class FaceTest {
    public static void main(String[] args) {
        Set<String> want = Set.of(
            "public static final int BAD_ARG", "public static final int FULL", "public static final int NONE",
            "public PermutationGroups()",
            "public int add(int)", "public int remove()", "public int conjugateAll(int)",
            "public int generators()", "public int product(int,int)", "public int inverse(int)",
            "public int order()", "public boolean has(int)", "public int orbit(int)", "public int orbits()",
            "public int fixing(int)", "public int keeping(int)", "public int images(int)",
            "public int commuting(int)", "public boolean alike(int,int)", "public int centre()",
            "public boolean commutative()", "public int carrier(int,int)", "public int normaliser()");
        Set<String> got = shownMembers();
        for (String member : want) {
            Due.due("shows " + member, got.contains(member), true);
        }
        for (String member : got) {
            Due.due("may show " + member, want.contains(member), true);
        }
        int modifiers = PermutationGroups.class.getModifiers();
        Due.due("public class", Modifier.isPublic(modifiers), true);
        Due.due("final class", Modifier.isFinal(modifiers), true);
        Due.due("nested classes", PermutationGroups.class.getDeclaredClasses().length, 0);
        Due.due("extends no class", PermutationGroups.class.getSuperclass() == Object.class, true);
        Due.due("implements no interface", PermutationGroups.class.getInterfaces().length, 0);
        Due.due("has no package", PermutationGroups.class.getPackageName().isEmpty(), true);
        Due.due("BAD_ARG", PermutationGroups.BAD_ARG, -1);
        Due.due("FULL", PermutationGroups.FULL, -2);
        Due.due("NONE", PermutationGroups.NONE, -4);
        Due.end();
    }

    private static Set<String> shownMembers() {
        Set<String> shown = new TreeSet<>();
        for (Field field : PermutationGroups.class.getDeclaredFields()) {
            if (!Modifier.isPrivate(field.getModifiers())) {
                shown.add(plain(field.toString()));
            }
        }
        for (Constructor<?> constructor : PermutationGroups.class.getDeclaredConstructors()) {
            if (!Modifier.isPrivate(constructor.getModifiers())) {
                shown.add(plain(constructor.toString()));
            }
        }
        for (Method method : PermutationGroups.class.getDeclaredMethods()) {
            if (!Modifier.isPrivate(method.getModifiers())) {
                shown.add(plain(method.toString()));
            }
        }
        return shown;
    }

    private static String plain(String member) {
        return member.replace("PermutationGroups.", "");
    }
}
