import java.io.IOException;
import java.lang.reflect.Method;
import java.lang.reflect.Modifier;
import java.nio.file.Files;
import java.nio.file.Path;
import java.util.ArrayList;
import java.util.List;
import java.util.Map;
import java.util.Set;
import java.util.TreeSet;
import java.util.regex.Matcher;
import java.util.regex.Pattern;
import java.util.stream.Stream;

/** The example of README.md answers as its comments say, and README.md names every public method and every test. */
public final class ReadmeTest {
    private static final Answers A = new Answers();
    private static final Pattern CALL = Pattern.compile("desk\\.(\\w+)\\((.*)\\);(?: +// (.*))?");
    private static final Pattern ANSWER = Pattern.compile("(-?\\d+|true|false|OK)(?::.*)?");
    private static final Map<String, Object> CONSTANTS = Map.of("true", true, "false", false, "OK", LanguageDesk.OK);

    public static void main(String[] args) throws IOException, ReflectiveOperationException {
        String readme = Files.readString(Path.of("README.md"));
        Set<String> called = runExample(example(readme));
        for (Method method : LanguageDesk.class.getDeclaredMethods()) {
            if (Modifier.isPublic(method.getModifiers())) {
                A.due("the example calls " + method.getName(), called.contains(method.getName()), true);
                A.due("the table names " + method.getName(), readme.contains("`" + method.getName() + "("), true);
            }
        }
        try (Stream<Path> tests = Files.list(Path.of("src/test/java"))) {
            for (Path test : tests.filter(path -> path.toString().endsWith("Test.java")).toList()) {
                String name = test.getFileName().toString().replace(".java", "");
                A.due("the list of tests names " + name, readme.contains("`" + name + "`"), true);
            }
        }
        A.close();
    }

    private static List<String> example(String readme) {
        int begin = readme.indexOf("```java\n");
        int end = readme.indexOf("```\n", begin + 3);
        A.due("there is an example", begin >= 0 && end > begin, true);
        return readme.substring(begin + 8, end).lines().filter(line -> !line.isBlank()).toList();
    }

    /** Makes the example's calls; answers the names of the methods that it called. */
    private static Set<String> runExample(List<String> lines) throws ReflectiveOperationException {
        A.due("it makes an object", lines.get(0).equals("LanguageDesk desk = new LanguageDesk();"), true);
        LanguageDesk desk = new LanguageDesk();
        Set<String> called = new TreeSet<>();
        for (String line : lines.subList(1, lines.size())) {
            Matcher call = CALL.matcher(line);
            A.due("it is a call: " + line, call.matches(), true);
            Object got = call(desk, call.group(1), call.group(2));
            called.add(call.group(1));
            Matcher answer = ANSWER.matcher(String.valueOf(call.group(3)));
            A.due("it tells the answer: " + line, answer.matches(), got != null);
            if (answer.matches()) {
                A.due("the answer is " + got + ", as told: " + line, value(answer.group(1)).equals(got), true);
            }
        }
        return called;
    }

    private static Object call(LanguageDesk desk, String name, String arguments) throws ReflectiveOperationException {
        List<Object> values = new ArrayList<>();
        List<Class<?>> types = new ArrayList<>();
        for (String argument : arguments.isEmpty() ? new String[0] : arguments.split(", ")) {
            Object value = value(argument);
            values.add(value);
            types.add(value instanceof Boolean ? boolean.class : int.class);
        }
        return LanguageDesk.class.getMethod(name, types.toArray(new Class<?>[0])).invoke(desk, values.toArray());
    }

    private static Object value(String word) {
        return CONSTANTS.containsKey(word) ? CONSTANTS.get(word) : Integer.valueOf(word);
    }
}
