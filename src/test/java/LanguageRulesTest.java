import java.io.IOException;
import java.lang.reflect.Field;
import java.lang.reflect.Method;
import java.lang.reflect.Modifier;
import java.nio.file.Files;
import java.nio.file.Path;
import java.util.ArrayList;
import java.util.HashMap;
import java.util.List;
import java.util.Map;
import java.util.Set;
import java.util.TreeSet;
import java.util.regex.Matcher;
import java.util.regex.Pattern;

/** The public face, and the rules of LANGUAGE.md so far as they show in the class and in the lines of its file. */
public final class LanguageRulesTest {
    private static final Answers A = new Answers();
    private static final Pattern HEAD = Pattern.compile("    (?:public|private) (?:static )?(?:\\w+ )?(\\w+)\\((.*)\\) \\{");
    private static final Pattern CALL = Pattern.compile("\\b(\\w+)\\(");
    private static final Set<String> NO_CALLS = Set.of("if", "for", "while", "switch", "return");

    /** Each method's name and its lines. */
    private static final Map<String, List<String>> METHODS = new HashMap<>();

    public static void main(String[] args) throws IOException {
        face();
        fields();
        List<String> lines = Files.readAllLines(Path.of("src/main/java/LanguageDesk.java"));
        words(lines);
        methods(lines);
        A.due("every method was found", METHODS.size(), LanguageDesk.class.getDeclaredMethods().length + 1);
        for (String name : METHODS.keySet()) {
            int deep = deep(name, List.of());
            A.due("calls from " + name + " go six deep at most: " + deep, deep <= 6, true);
        }
        A.close();
    }

    private static void face() {
        Set<String> want = new TreeSet<>(List.of("int production(int,boolean)", "boolean symbol(int,int)", "int build()",
            "boolean put(int,int,int,int)", "boolean delete(int,int)", "int token(int,int)", "int errorAt(int)",
            "int expected(int,int)", "int scope(int,int)", "int definitions(int)", "int references(int)", "int target(int,int)",
            "int duplicates(int)", "int unresolved()", "boolean rename(int,int,int)", "void restart()"));
        Set<String> seen = new TreeSet<>();
        Set<String> publicNames = new TreeSet<>();
        for (Method method : LanguageDesk.class.getDeclaredMethods()) {
            if (Modifier.isPublic(method.getModifiers())) {
                publicNames.add(method.getName());
                String full = method.toString();
                seen.add(method.getReturnType() + " " + method.getName() + full.substring(full.indexOf('(')));
            }
        }
        A.due("the public methods are those of the document", seen.equals(want), true);
        for (Method method : LanguageDesk.class.getDeclaredMethods()) {
            int modifiers = method.getModifiers();
            A.due(method.getName() + " is public or private", Modifier.isPublic(modifiers) || Modifier.isPrivate(modifiers), true);
            A.due(method.getName() + " bears a name of its own",
                Modifier.isPrivate(modifiers) && publicNames.contains(method.getName()), false);
            A.due(method.getName() + " takes seven parameters at most", method.getParameterCount() <= 7, true);
        }
        A.due("the class is public and final", LanguageDesk.class.getModifiers(), Modifier.PUBLIC | Modifier.FINAL);
        A.due("one constructor", LanguageDesk.class.getDeclaredConstructors().length, 1);
        A.due("a public constructor without parameters", LanguageDesk.class.getConstructors()[0].getParameterCount(), 0);
        A.due("no nested class", LanguageDesk.class.getDeclaredClasses().length, 0);
    }

    private static void fields() {
        Set<String> publicNames = new TreeSet<>();
        int count = 0;
        for (Field field : LanguageDesk.class.getDeclaredFields()) {
            int modifiers = field.getModifiers();
            Class<?> type = field.getType();
            if (Modifier.isStatic(modifiers)) {
                A.due(field.getName() + " is a constant", Modifier.isFinal(modifiers) && (type == int.class || type == long.class), true);
            } else {
                count++;
                A.due(field.getName() + " is private", Modifier.isPrivate(modifiers), true);
                A.due(field.getName() + " keeps its array", !type.isArray() || Modifier.isFinal(modifiers), true);
                Class<?> plain = type.isArray() ? type.getComponentType() : type;
                A.due(field.getName() + " is of a plain type", plain == int.class || plain == boolean.class, true);
            }
            if (!Modifier.isPrivate(modifiers)) {
                publicNames.add(field.getName());
            }
        }
        A.due("the public constants", publicNames.equals(Set.of("OK", "BUILT", "UNPRODUCTIVE", "CONFLICT")), true);
        A.due("forty fields at most: " + count, count <= 40, true);
    }

    private static void words(List<String> lines) {
        Pattern banned = Pattern.compile("\\b(import|package|throw|throws|try|catch|synchronized|assert|instanceof|null|String|Math"
            + "|Integer|System|Arrays|Object|float|double|class|interface|enum|record|while|do)\\b|->|::|\\[\\]\\[|\"");
        Pattern made = Pattern.compile("    private final (int|boolean)\\[\\] \\w+ = new (int|boolean)\\[[A-Z_]+\\];");
        for (String line : lines) {
            if (isCode(line) && !line.startsWith("public final class")) {
                A.due("within the language: " + line, banned.matcher(line).find(), false);
                A.due("an array is made in a field: " + line, line.contains("new ") && !made.matcher(line).matches(), false);
            }
        }
    }

    private static boolean isCode(String line) {
        String text = line.trim();
        return !text.startsWith("//") && !text.startsWith("*") && !text.startsWith("/*");
    }

    private static void methods(List<String> lines) {
        List<String> body = null;
        for (String line : lines) {
            Matcher head = HEAD.matcher(line);
            if (head.matches()) {
                body = new ArrayList<>();
                METHODS.put(head.group(1), body);
            } else if (line.equals("    }")) {
                A.due("some sixty lines at most", body != null && body.size() <= 60, true);
                body = null;
            } else if (body != null && isCode(line)) {
                body.add(line);
                nested(line);
            }
        }
    }

    /** No call stands inside the arguments of another one; a call closes on the line that it begins. */
    private static void nested(String line) {
        Matcher call = CALL.matcher(line);
        while (call.find()) {
            if (!NO_CALLS.contains(call.group(1))) {
                int close = call.end();
                for (int open = 1; open > 0; close++) {
                    open += line.charAt(close) == '(' ? 1 : line.charAt(close) == ')' ? -1 : 0;
                }
                A.due("no call in a call: " + line, CALL.matcher(line.substring(call.end(), close)).find(), false);
            }
        }
    }

    /** How deep calls go from a method, itself counted; beyond all bounds if it comes back to one that is running. */
    private static int deep(String name, List<String> running) {
        if (running.contains(name)) {
            return 1000;
        }
        List<String> now = new ArrayList<>(running);
        now.add(name);
        int deepest = 0;
        for (String line : METHODS.get(name)) {
            Matcher call = CALL.matcher(line);
            while (call.find()) {
                if (!NO_CALLS.contains(call.group(1))) {
                    deepest = Math.max(deepest, deep(call.group(1), now));
                }
            }
        }
        return deepest + 1;
    }
}
