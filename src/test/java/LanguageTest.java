import java.io.IOException;
import java.lang.reflect.Constructor;
import java.lang.reflect.Field;
import java.lang.reflect.Method;
import java.lang.reflect.Modifier;
import java.nio.file.Files;
import java.nio.file.Path;
import java.util.ArrayList;
import java.util.Arrays;
import java.util.List;
import java.util.Set;
import java.util.TreeSet;
import java.util.regex.Matcher;
import java.util.regex.Pattern;

/** The face of the class, and the rules of LANGUAGE.md that a scan of the source or of the class can see. */
public final class LanguageTest {
    private static final Path SOURCE = Path.of("src/main/java/FirstParts.java");
    private static final Set<String> METHODS = new TreeSet<>(List.of(
            "write 1", "erase 0", "fault 0", "tell 0", "part 2", "letter 2", "packets 1", "room 1", "need 2",
            "weigh 2", "drop 1", "pack 0", "lose 1", "cut 2", "spoil 3", "again 1", "undo 0", "number 2",
            "packed 2", "read 2", "mended 2", "blamed 1", "opened 1", "plan 1", "lesser 1", "count 1"));
    private static final Set<String> CONSTANTS = new TreeSet<>(List.of(
            "NONE -1", "UNKNOWN -2", "OUTSIDE -3", "NOT -4", "FULL -5"));
    private static final List<String> FORBIDDEN = List.of(
            "\\b(throw|throws|try|catch|finally|synchronized|assert|package|import|native|volatile|transient)\\b",
            "->", "::", "\\b(Object|Exception|Error|Thread|Class|Random|System\\.(?!arraycopy\\b)\\w+)\\b",
            "\\w+Exact\\b", "\\b(hashCode|toString|getClass)\\b", "\\bstatic\\s*\\{", "\\[\\]\\s*\\[\\]\\s*\\[\\]");
    private static final int MOST_CLASSES = 12, MOST_FIELDS = 20, MOST_PARAMETERS = 7, MOST_LINES = 60;

    private static int wrong = 0;

    public static void main(String[] args) throws IOException, IllegalAccessException {
        methods();
        constants();
        constructor();
        List<Class<?>> classes = new ArrayList<>(Arrays.asList(FirstParts.class.getDeclaredClasses()));
        classes.add(FirstParts.class);
        check(classes.size() <= MOST_CLASSES, "there are " + classes.size() + " classes");
        for (Class<?> c : classes) {
            shape(c);
        }
        String code = withoutComments(Files.readString(SOURCE));
        for (String form : FORBIDDEN) {
            Matcher m = Pattern.compile(form).matcher(code);
            boolean found = m.find();
            check(!found, "the source has " + (found ? m.group() : ""));
        }
        lengths(code);
        System.out.println(wrong == 0 ? "the language's rules are kept" : wrong + " rules are broken");
        if (wrong != 0) {
            System.exit(1);
        }
    }

    private static void check(boolean holds, String what) {
        if (!holds) {
            wrong++;
            System.out.println(what);
        }
    }

    private static void methods() {
        int modifiers = FirstParts.class.getModifiers();
        check(Modifier.isPublic(modifiers) && Modifier.isFinal(modifiers), "the class is not public and final");
        check(FirstParts.class.getSuperclass() == Object.class && FirstParts.class.getInterfaces().length == 0,
                "the class is a kind of another one");
        Set<String> methods = new TreeSet<>();
        for (Method m : FirstParts.class.getDeclaredMethods()) {
            if (!Modifier.isPrivate(m.getModifiers())) {
                methods.add(m.getName() + " " + m.getParameterCount());
                String ints = "int,".repeat(m.getParameterCount()).replaceAll(",$", "");
                check(m.toString().equals("public int FirstParts." + m.getName() + "(" + ints + ")"),
                        m + " is no method of the face");
            } else {
                check(METHODS.stream().noneMatch(f -> f.startsWith(m.getName() + " ")), m + " bears a public name");
            }
        }
        check(methods.equals(METHODS), "the methods are " + methods);
    }

    private static void constants() throws IllegalAccessException {
        Set<String> constants = new TreeSet<>();
        for (Field f : FirstParts.class.getDeclaredFields()) {
            if (!Modifier.isPrivate(f.getModifiers())) {
                boolean isOne = f.toString().equals("public static final int FirstParts." + f.getName());
                check(isOne, f + " is no constant of the face");
                constants.add(f.getName() + " " + (isOne ? f.getInt(null) : ""));
            }
        }
        check(constants.equals(CONSTANTS), "the constants are " + constants);
    }

    private static void constructor() {
        Constructor<?>[] made = FirstParts.class.getDeclaredConstructors();
        check(made.length == 1 && made[0].toString().equals("public FirstParts()"), "the constructor is another one");
    }

    private static void shape(Class<?> c) {
        int fields = 0;
        for (Field f : c.getDeclaredFields()) {
            boolean isStatic = Modifier.isStatic(f.getModifiers());
            check(!isStatic || Modifier.isFinal(f.getModifiers()), f + " is static and not final");
            fields += isStatic ? 0 : 1;
        }
        check(fields <= MOST_FIELDS, c + " has " + fields + " fields");
        check(c == FirstParts.class || Modifier.isStatic(c.getModifiers()), c + " is not static");
        check(c == FirstParts.class || c.getDeclaredClasses().length == 0, c + " has classes inside");
        for (Method m : c.getDeclaredMethods()) {
            check(m.getParameterCount() <= MOST_PARAMETERS, m + " has too many parameters");
            boolean named = METHODS.stream().anyMatch(f -> f.startsWith(m.getName() + " "));
            check(c == FirstParts.class || !named, m + " bears a name of the face");
        }
    }

    private static String withoutComments(String source) {
        return source.replaceAll("(?s)/\\*.*?\\*/", "").replaceAll("//[^\n]*", "");
    }

    /** A method begins at a line with a brace behind its parameters and ends at a brace as far in. */
    private static void lengths(String code) {
        String[] lines = code.split("\n");
        Pattern begin = Pattern.compile("^( {4}| {8})(?! )[^=;]*\\)\\s*\\{$");
        for (int i = 0; i < lines.length; i++) {
            Matcher m = begin.matcher(lines[i]);
            if (!m.matches()) {
                continue;
            }
            int end = i;
            while (end < lines.length - 1 && !lines[end].equals(m.group(1) + "}")) {
                end++;
            }
            check(end - i < MOST_LINES, "a long method: " + lines[i].trim());
        }
    }
}
