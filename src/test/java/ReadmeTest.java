import java.io.IOException;
import java.lang.reflect.Method;
import java.lang.reflect.Modifier;
import java.nio.file.Files;
import java.nio.file.Path;
import java.util.Set;
import java.util.TreeSet;
import java.util.regex.Matcher;
import java.util.regex.Pattern;

/** The calls that README.md shows answer as it says there, and it leaves out no call of the face. */
public final class ReadmeTest {
    private static final Path README = Path.of("README.md");
    private static final Pattern EXAMPLE = Pattern.compile("x\\.(\\w+)\\(([^)]*)\\); +// (\\S+)");
    private static final Pattern TABLE_ROW = Pattern.compile("(?m)^\\| `(\\w+)\\(([^)]*)\\)` \\|");

    private static final Check CHECK = new Check();

    public static void main(String[] args) throws IOException, ReflectiveOperationException {
        String text = Files.readString(README);
        Set<String> face = new TreeSet<>();
        for (Method method : GenomeJoins.class.getDeclaredMethods()) {
            if (Modifier.isPublic(method.getModifiers())) {
                face.add(named(method.getName(), method.getParameterCount()));
            }
        }
        examples(text, face);
        Set<String> rows = new TreeSet<>();
        for (Matcher row = TABLE_ROW.matcher(text); row.find();) {
            rows.add(named(row.group(1), numberOf(row.group(2))));
        }
        CHECK.due("the table's rows " + rows + ", are they the face", rows.equals(face), true);
        CHECK.end();
    }

    private static void examples(String text, Set<String> face) throws ReflectiveOperationException {
        GenomeJoins x = new GenomeJoins();
        Set<String> shown = new TreeSet<>();
        for (Matcher example = EXAMPLE.matcher(text); example.find();) {
            int number = numberOf(example.group(2));
            shown.add(named(example.group(1), number));
            CHECK.due(example.group(), answer(x, example.group(1), example.group(2), number), due(example.group(3)));
        }
        CHECK.due("the calls shown " + shown + ", are they the face", shown.equals(face), true);
        CHECK.due("lines with a call that were not read", text.split("\nx\\.").length, EXAMPLE.split(text).length);
    }

    private static int answer(GenomeJoins x, String name, String arguments, int number)
            throws ReflectiveOperationException {
        Class<?>[] types = new Class<?>[number];
        Object[] values = new Object[number];
        for (int i = 0; i < number; i++) {
            types[i] = int.class;
            values[i] = Integer.valueOf(arguments.split(", ")[i]);
        }
        Object answer = GenomeJoins.class.getMethod(name, types).invoke(x, values);
        return due(answer.toString());
    }

    private static int due(String said) {
        return switch (said) {
            case "BAD_ARG" -> GenomeJoins.BAD_ARG;
            case "NONE" -> GenomeJoins.NONE;
            case "true" -> 1;
            case "false" -> 0;
            default -> Integer.parseInt(said);
        };
    }

    private static String named(String name, int parameters) {
        return name + " with " + parameters;
    }

    private static int numberOf(String arguments) {
        return arguments.isEmpty() ? 0 : arguments.split(", ").length;
    }
}
