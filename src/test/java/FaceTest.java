import java.io.IOException;
import java.lang.reflect.Constructor;
import java.lang.reflect.Field;
import java.lang.reflect.Member;
import java.lang.reflect.Method;
import java.lang.reflect.Modifier;
import java.nio.file.Files;
import java.nio.file.Path;
import java.util.Arrays;
import java.util.Set;
import java.util.TreeSet;
import java.util.regex.Pattern;

/** The public face is the document's and no more, and the source keeps off the words that LANGUAGE.md rules out. */
public final class FaceTest {
    private static final Path SOURCE = Path.of("src/main/java/GenomeJoins.java");

    private static final Set<String> FACE = new TreeSet<>(Arrays.asList(
            "BAD_ARG", "NONE", "GenomeJoins()",
            "int join(int, int, int)", "int cut(int, int)", "int cross(int, int, int)",
            "int shift(int, int, int)", "int copy(int, int)", "int partner(int, int)",
            "int joints(int)", "int chromosomes(int)", "int round(int)", "int distance(int, int)",
            "int nearer(int, int)", "int steps(int)", "int approach(int, int)", "int middle()",
            "int middles()", "boolean onTheWay(int, int, int, int)"));

    private static final String[] RULED_OUT = {
        "import", "package", "null", "float", "double", "String", "Math", "Integer", "System", "Arrays", "Object",
        "throw", "try", "catch", "synchronized", "assert", "instanceof", "protected", "interface", "enum", "record",
        "->", "::", "\\[\\]\\s*\\["};

    private static final Check CHECK = new Check();

    public static void main(String[] args) throws IOException {
        constants();
        face();
        words();
        CHECK.end();
    }

    private static void constants() {
        CHECK.due("BAD_ARG", GenomeJoins.BAD_ARG, -1);
        CHECK.due("NONE", GenomeJoins.NONE, -4);
    }

    private static void face() {
        Class<?> type = GenomeJoins.class;
        Set<String> found = new TreeSet<>();
        Set<String> publicNames = new TreeSet<>();
        for (Field field : type.getDeclaredFields()) {
            if (isSeen(field)) {
                found.add(field.getName());
            }
        }
        for (Constructor<?> constructor : type.getDeclaredConstructors()) {
            found.add("GenomeJoins" + list(constructor.getParameterTypes()));
        }
        for (Method method : type.getDeclaredMethods()) {
            if (isSeen(method)) {
                publicNames.add(method.getName());
                found.add(method.getReturnType() + " " + method.getName() + list(method.getParameterTypes()));
            }
        }
        CHECK.due("the face " + found + ", is it the document's", found.equals(FACE), true);
        for (Method method : type.getDeclaredMethods()) {
            boolean sameName = !isSeen(method) && publicNames.contains(method.getName());
            CHECK.due("a private " + method.getName() + " beside a public one", sameName, false);
        }
        CHECK.due("the class is public", Modifier.isPublic(type.getModifiers()), true);
        CHECK.due("the class is final", Modifier.isFinal(type.getModifiers()), true);
    }

    private static boolean isSeen(Member member) {
        return !Modifier.isPrivate(member.getModifiers());
    }

    private static String list(Class<?>[] types) {
        return Arrays.toString(types).replace('[', '(').replace(']', ')');
    }

    private static void words() throws IOException {
        String code = Files.readString(SOURCE).replaceAll("(?s)/\\*.*?\\*/", "").replaceAll("//[^\n]*", "");
        for (String word : RULED_OUT) {
            String alone = Character.isLetter(word.charAt(0)) ? "\\b" + word + "\\b" : word;
            CHECK.due("the source has " + word, Pattern.compile(alone).matcher(code).find(), false);
        }
        CHECK.due("arrays made", code.split("\\bnew\\b", -1).length - 1, 1);
    }
}
