import java.io.IOException;
import java.lang.reflect.Method;
import java.lang.reflect.Modifier;
import java.nio.file.DirectoryStream;
import java.nio.file.Files;
import java.nio.file.Path;
import java.util.HashSet;
import java.util.List;
import java.util.Set;
import java.util.regex.Matcher;
import java.util.regex.Pattern;

/** README.md says what is so: the calls that stand in it answer as it says, and it names all calls and all tests. */
public final class ReadmeTest {
    private static final Pattern FED = Pattern.compile("feed\\(x, \"(.*)\"\\);");
    private static final Pattern CALL = Pattern.compile("x\\.(\\w+)\\((.*)\\); +// (-?\\d+|true|false)\\b.*");

    private ReadmeTest() {
    }

    public static void main(String[] args) throws IOException, ReflectiveOperationException {
        List<String> lines = Files.readAllLines(Path.of("README.md"));
        calls(lines);
        String text = String.join("\n", lines);
        signatures(text);
        tests(text);
        Due.end();
    }

    private static void calls(List<String> lines) throws ReflectiveOperationException {
        NameOrchard x = new NameOrchard();
        Set<String> asked = new HashSet<>();
        for (String line : lines) {
            Matcher fed = FED.matcher(line);
            Matcher call = CALL.matcher(line);
            if (fed.matches()) {
                Due.feed(x, fed.group(1));
                asked.add("feed");
            } else if (call.matches()) {
                asked.add(call.group(1));
                Due.text(line, answer(x, call.group(1), call.group(2)), call.group(3));
            }
        }
        for (Method m : NameOrchard.class.getDeclaredMethods()) {
            Due.yes("there is an example of " + m, !Modifier.isPublic(m.getModifiers()) || asked.contains(m.getName()));
        }
    }

    private static String answer(NameOrchard x, String name, String told) throws ReflectiveOperationException {
        String[] words = told.isEmpty() ? new String[0] : told.split(", ");
        Class<?>[] types = new Class<?>[words.length];
        Object[] values = new Object[words.length];
        for (int i = 0; i < words.length; i++) {
            boolean truth = words[i].equals("true") || words[i].equals("false");
            types[i] = truth ? boolean.class : int.class;
            if (truth) {
                values[i] = Boolean.valueOf(words[i]);
            } else {
                values[i] = Integer.valueOf(words[i]);
            }
        }
        return String.valueOf(NameOrchard.class.getMethod(name, types).invoke(x, values));
    }

    /** Each call of the face stands in a table, with its arguments' types, once. */
    private static void signatures(String text) {
        for (Method m : NameOrchard.class.getDeclaredMethods()) {
            if (Modifier.isPublic(m.getModifiers())) {
                StringBuilder types = new StringBuilder();
                for (Class<?> type : m.getParameterTypes()) {
                    types.append(types.length() > 0 ? ", " : "").append(type).append(" \\w+");
                }
                Matcher row = Pattern.compile("\n\\| `" + m.getName() + "\\(" + types + "\\)` \\| ").matcher(text);
                Due.same("rows of " + m, row.results().count(), 1);
            }
        }
    }

    private static void tests(String text) throws IOException {
        try (DirectoryStream<Path> files = Files.newDirectoryStream(Path.of("src/test/java"), "*.java")) {
            for (Path file : files) {
                String name = file.getFileName().toString().replace(".java", "");
                Due.yes("README.md names " + name, text.contains("`" + name + "`") || text.contains("`" + name + ".java`"));
            }
        }
    }
}
