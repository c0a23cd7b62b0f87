import java.lang.reflect.Constructor;
import java.lang.reflect.Field;
import java.lang.reflect.Member;
import java.lang.reflect.Method;
import java.lang.reflect.Modifier;
import java.util.Arrays;
import java.util.Set;
import java.util.TreeSet;

/** The public face is the document's and no more (rule 1 of LANGUAGE.md). */
public final class FaceTest {
    private static final Set<String> FACE = new TreeSet<>(Arrays.asList(
            "public static final int BAD_ARG", "public static final int NONE", "public GenomeJoins()",
            "public int join(int, int, int)", "public int cut(int, int)", "public int cross(int, int, int)",
            "public int shift(int, int, int)", "public int copy(int, int)", "public int partner(int, int)",
            "public int joints(int)", "public int chromosomes(int)", "public int round(int)",
            "public int distance(int, int)", "public int nearer(int, int)", "public int steps(int)",
            "public int approach(int, int)", "public int middle()", "public int middles()",
            "public boolean onTheWay(int, int, int, int)"));

    private static final Check CHECK = new Check();

    public static void main(String[] args) {
        constants();
        face();
        CHECK.end();
    }

    private static void constants() {
        CHECK.due("BAD_ARG", GenomeJoins.BAD_ARG, -1);
        CHECK.due("NONE", GenomeJoins.NONE, -4);
    }

    private static void face() {
        Class<?> type = GenomeJoins.class;
        Set<String> found = new TreeSet<>();
        Set<String> publicNames = new TreeSet<>();
        for (Field field : type.getDeclaredFields()) {
            if (isSeen(field)) {
                found.add(modifiers(field) + field.getType() + " " + field.getName());
            }
        }
        for (Constructor<?> constructor : type.getDeclaredConstructors()) {
            found.add(modifiers(constructor) + "GenomeJoins" + list(constructor.getParameterTypes()));
        }
        for (Method method : type.getDeclaredMethods()) {
            if (isSeen(method)) {
                publicNames.add(method.getName());
                String name = method.getName() + list(method.getParameterTypes());
                found.add(modifiers(method) + method.getReturnType() + " " + name);
            }
        }
        CHECK.due("the face " + found + ", is it the document's", found.equals(FACE), true);
        for (Method method : type.getDeclaredMethods()) {
            boolean sameName = !isSeen(method) && publicNames.contains(method.getName());
            CHECK.due("a private " + method.getName() + " beside a public one", sameName, false);
        }
        CHECK.due("the class is public", Modifier.isPublic(type.getModifiers()), true);
        CHECK.due("the class is final", Modifier.isFinal(type.getModifiers()), true);
    }

    private static boolean isSeen(Member member) {
        return !Modifier.isPrivate(member.getModifiers());
    }

    private static String modifiers(Member member) {
        return Modifier.toString(member.getModifiers()) + " ";
    }

    private static String list(Class<?>[] types) {
        return Arrays.toString(types).replace('[', '(').replace(']', ')');
    }
}
