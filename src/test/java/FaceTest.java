import java.io.IOException;
import java.lang.reflect.Constructor;
import java.lang.reflect.Field;
import java.lang.reflect.Method;
import java.lang.reflect.Modifier;
import java.nio.file.Files;
import java.nio.file.Path;
import java.util.Map;
import java.util.Set;
import java.util.TreeMap;
import java.util.TreeSet;
import java.util.regex.Matcher;
import java.util.regex.Pattern;

/** The public face, and those rules of LANGUAGE.md that can be read off the class and its text. */
public final class FaceTest {
    private static final Check check = new Check("FaceTest");
    private static final Path SOURCE = Path.of("src/main/java/GameRows.java");
    private static final Set<String> FACE = new TreeSet<>(Set.of(
        "clear()", "set(int,int)", "end(int,int)", "chance(int,int,int)", "node(int,int,int,int)", "count(int)",
        "told(int,int)", "act(int,int,int)", "worth(int,int,int)", "answer(int,int)", "point(boolean,int)",
        "within(int)", "than(int,int,int)", "goes(int,int)", "sure(int)", "remembered(int)", "taken(int,int,int)",
        "bound(int,int)"));
    private static final Map<String, Integer> CONSTANTS = new TreeMap<>(Map.of(
        "NONE", -1, "BAD", -2, "FULL", -3, "TAKEN", -4, "DEEP", -5, "WRONG", -6, "EMPTY", -1000000));

    public static void main(String[] args) throws IOException, IllegalAccessException {
        methods();
        constants();
        check.holds("final", Modifier.isFinal(GameRows.class.getModifiers()));
        Constructor<?>[] made = GameRows.class.getDeclaredConstructors();
        check.holds("one constructor", made.length == 1 && Modifier.isPublic(made[0].getModifiers())
            && made[0].getParameterCount() == 0);
        classesInside();
        text(Files.readString(SOURCE));
        check.close();
    }

    private static String signature(Method m) {
        StringBuilder s = new StringBuilder(m.getName()).append('(');
        for (Class<?> p : m.getParameterTypes()) {
            s.append(s.charAt(s.length() - 1) == '(' ? "" : ",").append(p.getName());
        }
        return s.append(')').toString();
    }

    private static void methods() {
        Set<String> seen = new TreeSet<>();
        Set<String> names = new TreeSet<>();
        for (Method m : GameRows.class.getDeclaredMethods()) {
            if (Modifier.isPublic(m.getModifiers())) {
                seen.add(signature(m));
                names.add(m.getName());
                check.holds(m.getName() + " answers an int and is no static one",
                    m.getReturnType() == int.class && !Modifier.isStatic(m.getModifiers()));
            }
        }
        check.holds("the methods are " + FACE + ", not " + seen, seen.equals(FACE));
        for (Method m : GameRows.class.getDeclaredMethods()) {
            check.holds(m.getName() + " is public or private", isPublicOrPrivate(m.getModifiers()));
            check.holds("no private " + m.getName(), Modifier.isPublic(m.getModifiers()) || !names.contains(m.getName()));
        }
        for (Class<?> inside : GameRows.class.getDeclaredClasses()) {
            for (Method m : inside.getDeclaredMethods()) {
                check.holds("no " + m.getName() + " inside", !names.contains(m.getName()));
                check.holds(m.getName() + " takes seven at most", m.getParameterCount() <= 7);
            }
        }
    }

    private static boolean isPublicOrPrivate(int modifiers) {
        return Modifier.isPublic(modifiers) || Modifier.isPrivate(modifiers);
    }

    private static void constants() throws IllegalAccessException {
        Map<String, Integer> seen = new TreeMap<>();
        int own = 0;
        for (Field f : GameRows.class.getDeclaredFields()) {
            check.holds(f.getName() + " is public or private", isPublicOrPrivate(f.getModifiers()));
            if (Modifier.isPublic(f.getModifiers())) {
                check.holds(f.getName() + " is an int for good", f.getType() == int.class
                    && Modifier.isStatic(f.getModifiers()) && Modifier.isFinal(f.getModifiers()));
                seen.put(f.getName(), f.getInt(null));
            }
            own += Modifier.isStatic(f.getModifiers()) ? 0 : 1;
        }
        check.holds("the constants are " + CONSTANTS + ", not " + seen, seen.equals(CONSTANTS));
        check.holds("some twenty fields", own <= 20);
    }

    private static void classesInside() {
        Class<?>[] inside = GameRows.class.getDeclaredClasses();
        check.holds("some twelve classes", inside.length <= 12);
        for (Class<?> c : inside) {
            check.holds(c.getName() + " is static and not public",
                Modifier.isStatic(c.getModifiers()) && !Modifier.isPublic(c.getModifiers()));
            check.holds(c.getName() + " has some twenty fields", c.getDeclaredFields().length <= 20);
        }
    }

    private static void text(String source) {
        String code = source.replaceAll("(?s)/\\*.*?\\*/", "").replaceAll("//[^\n]*", "");
        for (String word : new String[] {"throw", "throws", "try", "catch", "synchronized", "assert", "package", "extends",
            "->", "::", "Object", "System\\.(?!arraycopy)", "Random", "Thread", "Exact\\(", "float", "double"}) {
            Matcher m = Pattern.compile(Character.isLetter(word.charAt(0)) ? "\\b" + word : word).matcher(code);
            check.holds("no " + word + " in the text", !m.find());
        }
        Matcher imports = Pattern.compile("import ([^;]+);").matcher(code);
        while (imports.find()) {
            check.holds("import " + imports.group(1), imports.group(1).equals("java.util.Arrays"));
        }
        Matcher library = Pattern.compile("\\b(Integer|Long|Math|Arrays|System|String|StringBuilder|List|ArrayList)\\b\\.?(\\w*)").matcher(code);
        while (library.find()) {
            check.holds(library.group() + " stands in rule 4",
                Set.of("Arrays", "Arrays.fill", "Long.bitCount", "Math.max", "Math.min").contains(library.group()));
        }
        check.holds("no character beyond 255", source.chars().allMatch(c -> c <= 255));
        int open = -1;
        String[] lines = source.split("\n");
        for (int i = 0; i < lines.length; i++) {
            if (lines[i].matches(" {4,8}(public|private|[a-zA-Z\\[\\]]+) .*\\) \\{")) {
                open = i;
            } else if (open >= 0 && lines[i].matches(" {4,8}\\}")) {
                check.holds("sixty lines at most: " + lines[open].trim(), i - open < 60);
                open = -1;
            }
        }
    }
}
