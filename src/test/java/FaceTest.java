import java.io.IOException;
import java.lang.reflect.Constructor;
import java.lang.reflect.Field;
import java.lang.reflect.Method;
import java.lang.reflect.Modifier;
import java.nio.charset.StandardCharsets;
import java.nio.file.Files;
import java.nio.file.Path;
import java.util.Arrays;
import java.util.List;
import java.util.Map;
import java.util.Set;
import java.util.TreeMap;
import java.util.TreeSet;
import java.util.regex.Matcher;
import java.util.regex.Pattern;
import java.util.stream.Collectors;

/** The document's face and those rules of LANGUAGE.md that can be read off the class and its text. */
public final class FaceTest {
    private static final Check C = new Check("FaceTest");
    private static List<String> face = List.of();

    public static void main(String[] args) throws IOException {
        face = new Document(Path.of("../shared/DOC.md")).face();
        constants();
        signatures();
        members();
        inside();
        String text = Files.readString(Path.of("src/main/java/KeptSeats.java"), StandardCharsets.ISO_8859_1);
        words(text);
        lengths(text);
        C.end();
    }

    /** The names of the constants, each with the value that the document's face gives it. */
    private static Map<String, Integer> constantsDue() {
        Map<String, Integer> due = new TreeMap<>();
        for (String line : face) {
            if (line.startsWith("public static final int ")) {
                Matcher m = Pattern.compile("(\\w+) = (-?\\d+)").matcher(line);
                while (m.find()) {
                    due.put(m.group(1), Integer.parseInt(m.group(2)));
                }
            }
        }
        return due;
    }

    /** The document's methods as "int enter(int, int, int, int)". */
    private static Set<String> methodsDue() {
        Set<String> due = new TreeSet<>();
        for (String line : face) {
            Matcher m = Pattern.compile("public (int|long) (\\w+)\\((.*)\\);").matcher(line);
            if (m.matches()) {
                due.add(m.group(1) + " " + m.group(2) + "(" + m.group(3).replaceAll("(\\w+) \\w+", "$1") + ")");
            }
        }
        return due;
    }

    private static Set<String> namesDue() {
        return methodsDue().stream().map(t -> t.replaceAll("\\w+ (\\w+)\\(.*", "$1")).collect(Collectors.toCollection(TreeSet::new));
    }

    private static void constants() {
        C.due("UNKNOWN", KeptSeats.UNKNOWN, -1);
        C.due("OUTSIDE", KeptSeats.OUTSIDE, -2);
        C.due("STATE", KeptSeats.STATE, -3);
        C.due("FULL", KeptSeats.FULL, -4);
        C.due("NONE", KeptSeats.NONE, -9);
        Map<String, Integer> found = new TreeMap<>();
        for (Field f : KeptSeats.class.getFields()) {
            boolean isConstant = Modifier.isStatic(f.getModifiers()) && Modifier.isFinal(f.getModifiers());
            C.holds(f + " is a constant of int", isConstant && f.getType() == int.class);
            found.put(f.getName(), valueOf(f));
        }
        C.holds("the constants of the document, and no other: " + found, found.equals(constantsDue()));
        C.due("constants in the document", constantsDue().size(), 5);
    }

    private static int valueOf(Field f) {
        try {
            return f.getInt(null);
        } catch (ReflectiveOperationException e) {
            throw new IllegalStateException(e);
        }
    }

    private static void signatures() {
        C.holds("the document's class", face.contains("public final class KeptSeats {") && face.contains("public KeptSeats();"));
        int modifiers = KeptSeats.class.getModifiers();
        C.holds("the class is public and final", Modifier.isPublic(modifiers) && Modifier.isFinal(modifiers));
        C.holds("it is a class of its own", KeptSeats.class.getSuperclass() == Object.class);
        C.due("interfaces", KeptSeats.class.getInterfaces().length, 0);
        Constructor<?>[] all = KeptSeats.class.getDeclaredConstructors();
        C.holds("one constructor", all.length == 1 && all[0].getParameterCount() == 0);
        C.holds("it is public", Modifier.isPublic(all[0].getModifiers()));
        Set<String> found = new TreeSet<>();
        for (Method m : KeptSeats.class.getDeclaredMethods()) {
            if (Modifier.isPublic(m.getModifiers())) {
                String types = Arrays.stream(m.getParameterTypes()).map(Class::toString).collect(Collectors.joining(", "));
                found.add(m.getReturnType() + " " + m.getName() + "(" + types + ")");
                C.holds(m.getName() + " is not static", !Modifier.isStatic(m.getModifiers()));
                C.due("exceptions of " + m.getName(), m.getExceptionTypes().length, 0);
            }
        }
        C.holds("the methods of the document, and no other: " + found, found.equals(methodsDue()));
        C.due("methods in the document", found.size(), 34);
    }

    private static boolean hidden(int modifiers) {
        return Modifier.isPrivate(modifiers);
    }

    private static void members() {
        Set<String> names = namesDue();
        for (Method m : KeptSeats.class.getDeclaredMethods()) {
            C.holds(m + " is public or private", Modifier.isPublic(m.getModifiers()) || hidden(m.getModifiers()));
            C.holds(m + " has a name of its own", Modifier.isPublic(m.getModifiers()) || !names.contains(m.getName()));
            C.holds(m + " has at most seven parameters", m.getParameterCount() <= 7);
        }
        Set<String> constants = constantsDue().keySet();
        for (Field f : KeptSeats.class.getDeclaredFields()) {
            C.holds(f + " is of the face or private", constants.contains(f.getName()) == !hidden(f.getModifiers()));
            boolean isStatic = Modifier.isStatic(f.getModifiers());
            C.holds(f + ", if static, is final", !isStatic || Modifier.isFinal(f.getModifiers()));
        }
    }

    private static void inside() {
        Class<?>[] classes = KeptSeats.class.getDeclaredClasses();
        C.holds("at most twelve classes", classes.length <= 12);
        for (Class<?> c : classes) {
            C.holds(c + " is static", Modifier.isStatic(c.getModifiers()));
            C.holds(c + " is not to be seen", !Modifier.isPublic(c.getModifiers()) && !Modifier.isProtected(c.getModifiers()));
            for (Method m : c.getDeclaredMethods()) {
                C.holds(m + " has a name of its own", !hidden(m.getModifiers()) || !namesDue().contains(m.getName()));
            }
            int fields = 0;
            for (Field f : c.getDeclaredFields()) {
                fields += Modifier.isStatic(f.getModifiers()) ? 0 : 1;
                C.holds(f + " static only if final", !Modifier.isStatic(f.getModifiers()) || Modifier.isFinal(f.getModifiers()));
            }
            C.holds(c + " has at most twenty fields", fields <= 20);
        }
    }

    /** The text without comments and without what stands in quotes; lines stay lines. */
    private static String codeOf(String text) {
        Matcher m = Pattern.compile("(?s)/\\*.*?\\*/|//[^\n]*|\"(\\\\.|[^\"\\\\])*\"|'(\\\\.|[^'\\\\])+'").matcher(text);
        return m.replaceAll(r -> r.group().replaceAll("[^\n]", " "));
    }

    private static void words(String text) {
        C.holds("plain signs only", text.chars().allMatch(s -> s >= 1 && s <= 127));
        String code = codeOf(text);
        Matcher m = Pattern.compile("\\b(throw|throws|try|catch|synchronized|assert|package|System\\.(?!arraycopy)\\w+|Thread"
            + "|Random|random|\\w+Exact|hashCode)\\b|::").matcher(code);
        while (m.find()) {
            C.holds("no '" + m.group() + "' in the class", false);
        }
        Matcher arrow = Pattern.compile("(?m)^(.*)->").matcher(code);
        while (arrow.find()) {
            C.holds("no lambda: " + arrow.group().strip(), arrow.group(1).matches(".*\\b(case|default)\\b.*"));
        }
        Matcher imported = Pattern.compile("(?m)^\\s*import\\s+([\\w.*]+)").matcher(code);
        while (imported.find()) {
            C.holds("no import of " + imported.group(1), imported.group(1).matches("java\\.util\\.(ArrayList|List|Arrays|Iterator)"));
        }
    }

    /** Counts the lines of each method, from its head to the brace that ends it. */
    private static void lengths(String text) {
        String code = codeOf(text);
        Matcher head = Pattern.compile("\\b(\\w+)\\s*\\([^(){};]*\\)\\s*\\{").matcher(code);
        int methods = 0;
        while (head.find()) {
            if (!head.group(1).matches("if|for|while|switch")) {
                methods++;
                long lines = code.substring(head.start(), endOf(code, head.end())).lines().count();
                C.holds(head.group(1) + " has " + lines + " lines", lines <= 65);
            }
        }
        C.holds("methods are found in the text: " + methods, methods > namesDue().size());
    }

    /** Where the block ends that has begun before this place. */
    private static int endOf(String code, int from) {
        int open = 1;
        int i = from;
        while (i < code.length() && open > 0) {
            open += code.charAt(i) == '{' ? 1 : code.charAt(i) == '}' ? -1 : 0;
            i++;
        }
        return i;
    }
}
