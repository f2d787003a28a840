import java.io.IOException;
import java.lang.reflect.Field;
import java.lang.reflect.Method;
import java.lang.reflect.Modifier;
import java.nio.file.Files;
import java.nio.file.Path;
import java.util.HashMap;
import java.util.Map;
import java.util.Set;
import java.util.TreeSet;
import java.util.regex.Matcher;
import java.util.regex.Pattern;

/**
 * The calls that README.md shows answer what README.md says of them. Its blocks of Java are read as one run of
 * three sorts of lines: a new object, a call with its answer behind it, and nothing.
 */
public final class ReadmeTest {
    private static final Check check = new Check("ReadmeTest");
    private static final Path README = Path.of("README.md");
    private static final Pattern BLOCK = Pattern.compile("(?s)```java\n(.*?)```");
    private static final Pattern MAKE = Pattern.compile("GameRows (\\w+) = new GameRows\\(\\);");
    private static final Pattern CALL =
        Pattern.compile("(?:int (\\w+) = )?(\\w+)\\.(\\w+)\\(([^()]*)\\); +// (-?\\d+|[A-Z]+)(?:$|:.*| = .*)");
    private static final Pattern PRODUCT = Pattern.compile(" = (\\d+) \\* (\\d+) \\+ (\\d+)(?:$|:.*)");
    private static final Pattern IN_TABLE = Pattern.compile("(?m)^\\| `(\\w+)\\(([^()]*)\\)` \\|");
    private static final Pattern ANSWER_IN_TABLE = Pattern.compile("(?m)^\\| `([A-Z]+)` \\|");
    private static final Map<String, GameRows> objects = new HashMap<>();
    private static final Map<GameRows, Integer> callsOf = new HashMap<>();
    private static final Map<String, Integer> numbers = new HashMap<>();
    private static final Set<String> shown = new TreeSet<>();

    public static void main(String[] args) throws IOException, ReflectiveOperationException {
        String text = Files.readString(README);
        Matcher block = BLOCK.matcher(text);
        while (block.find()) {
            for (String line : block.group(1).split("\n")) {
                run(line.trim());
            }
        }
        check.holds("every call of the face is shown: " + shown, shown.equals(face()));
        check.holds("every call of the face stands in a table", inTables(text).equals(face()));
        check.holds("every answer that is no number stands in a table", answersInTable(text).equals(constants()));
        check.holds("it says how to run the tests", text.contains("\n    .ci/run\n"));
        testsAreThere(text);
        for (Map.Entry<GameRows, Integer> used : callsOf.entrySet()) {
            check.holds("512 calls at most", used.getValue() <= 512);
        }
        check.close();
    }

    private static void testsAreThere(String text) {
        Matcher test = Pattern.compile("\\b\\w+Test\\b").matcher(text);
        while (test.find()) {
            check.holds(test.group() + " is a test", Files.exists(Path.of("src/test/java", test.group() + ".java")));
        }
    }

    private static void run(String line) throws ReflectiveOperationException {
        Matcher make = MAKE.matcher(line);
        Matcher call = CALL.matcher(line);
        if (make.matches()) {
            check.holds(line + " is a new name", objects.put(make.group(1), new GameRows()) == null);
        } else if (call.matches()) {
            runCall(line, call);
        } else {
            check.holds("a call with its answer: " + line, line.isEmpty());
        }
    }

    private static void runCall(String line, Matcher call) throws ReflectiveOperationException {
        GameRows made = objects.get(call.group(2));
        String[] words = call.group(4).isEmpty() ? new String[0] : call.group(4).split(", ");
        Method method = methodOf(call.group(3), words.length);
        if (made == null || method == null) {
            check.holds("an object and a call that are there: " + line, false);
            return;
        }
        callsOf.merge(made, 1, Integer::sum);
        shown.add(signature(method.getName(), words.length));
        int answer = (int) method.invoke(made, argumentsOf(method, words));
        check.same(line, answer, numberOf(call.group(5)));
        if (call.group(1) != null) {
            check.holds(line + " is a new name", numbers.put(call.group(1), answer) == null);
        }
        Matcher product = PRODUCT.matcher(line.substring(call.end(5)));
        if (product.matches()) {
            check.same(line + " (the product)", answer, Integer.parseInt(product.group(1))
                * Integer.parseInt(product.group(2)) + Integer.parseInt(product.group(3)));
        }
    }

    private static Object[] argumentsOf(Method method, String[] words) throws ReflectiveOperationException {
        Object[] arguments = new Object[words.length];
        for (int i = 0; i < words.length; i++) {
            boolean isBoolean = method.getParameterTypes()[i] == boolean.class;
            check.holds(words[i] + " of " + method.getName() + " is true or false",
                isBoolean == Set.of("true", "false").contains(words[i]));
            arguments[i] = isBoolean ? (Object) words[i].equals("true") : (Object) numberOf(words[i]);
        }
        return arguments;
    }

    /** A number, the name of one that was told before, or that of a constant. */
    private static int numberOf(String word) throws ReflectiveOperationException {
        if (word.matches("-?\\d+")) {
            return Integer.parseInt(word);
        }
        if (word.matches("[A-Z]+")) {
            return GameRows.class.getField(word).getInt(null);
        }
        check.holds(word + " was told before", numbers.containsKey(word));
        return numbers.getOrDefault(word, Integer.MIN_VALUE);
    }

    private static Method methodOf(String name, int size) {
        for (Method m : GameRows.class.getDeclaredMethods()) {
            if (Modifier.isPublic(m.getModifiers()) && m.getName().equals(name)
                && m.getParameterCount() == size) {
                return m;
            }
        }
        return null;
    }

    private static String signature(String name, int size) {
        return name + " of " + size;
    }

    private static Set<String> face() {
        Set<String> names = new TreeSet<>();
        for (Method m : GameRows.class.getDeclaredMethods()) {
            if (Modifier.isPublic(m.getModifiers())) {
                names.add(signature(m.getName(), m.getParameterCount()));
            }
        }
        return names;
    }

    private static Set<String> inTables(String text) {
        Set<String> names = new TreeSet<>();
        Matcher row = IN_TABLE.matcher(text);
        while (row.find()) {
            names.add(signature(row.group(1), row.group(2).isEmpty() ? 0 : row.group(2).split(", ").length));
        }
        return names;
    }

    private static Set<String> answersInTable(String text) {
        Set<String> names = new TreeSet<>();
        Matcher row = ANSWER_IN_TABLE.matcher(text);
        while (row.find()) {
            names.add(row.group(1));
        }
        return names;
    }

    private static Set<String> constants() {
        Set<String> names = new TreeSet<>();
        for (Field f : GameRows.class.getFields()) {
            names.add(f.getName());
        }
        return names;
    }
}
