import java.io.IOException;
import java.lang.reflect.InvocationTargetException;
import java.lang.reflect.Method;
import java.lang.reflect.Modifier;
import java.nio.file.Files;
import java.nio.file.Path;
import java.util.ArrayList;
import java.util.List;
import java.util.Map;
import java.util.Set;
import java.util.TreeMap;
import java.util.TreeSet;
import java.util.regex.Matcher;
import java.util.regex.Pattern;
import java.util.stream.Stream;

/** The runs of calls that README.md shows, read from it line by line, with the answers that it names. */
public final class ReadmeTest {
    private static final String NEW_OBJECT = "FirstParts x = new FirstParts();";
    private static final String ANSWER = "\\s*// (-?\\d+)(?:, ([A-Z]+))?: .+";
    private static final Pattern CALL = Pattern.compile("x\\.(\\w+)\\(((?:-?\\d+(?:, -?\\d+)*)?)\\);" + ANSWER);
    private static final Pattern WRITING = Pattern.compile(
            "for \\(char c : \"([^\"\\\\]*)\"(?:\\.repeat\\((\\d+)\\))?\\.toCharArray\\(\\)\\) x\\.write\\(c\\);" + ANSWER);
    private static final Map<String, Integer> NAMED = Map.of(
            "NONE", FirstParts.NONE, "UNKNOWN", FirstParts.UNKNOWN, "OUTSIDE", FirstParts.OUTSIDE,
            "NOT", FirstParts.NOT, "FULL", FirstParts.FULL);
    private static final Map<String, Method> FACE = face();

    private static final Set<String> shown = new TreeSet<>();
    private static final Set<String> answered = new TreeSet<>();
    private static Edges.Run before;

    public static void main(String[] args) throws IOException {
        String readme = Files.readString(Path.of("README.md"));
        Edges.sentence("README.md: the runs of calls with their answers");
        runs(readme);
        Edges.sentence("README.md: how to use the class");
        for (String name : FACE.keySet()) {
            holds(shown.contains(name), "no run shows " + name + "()");
            holds(readme.contains("`" + name + "("), "the table of all calls lacks " + name + "()");
        }
        Edges.sentence("README.md: what a refused call answers");
        for (String name : NAMED.keySet()) {
            holds(answered.contains(name), "no run shows the answer " + name);
            holds(readme.contains("`" + name + "`, " + NAMED.get(name)), "the number of " + name + " is not told");
        }
        Edges.sentence("README.md: how to run the tests");
        holds(readme.contains("`.ci/run`"), ".ci/run is not told");
        for (String test : tests()) {
            holds(readme.contains("`" + test + "`"), "the test " + test + " is not told");
        }
        Edges.finish();
    }

    private static void holds(boolean it, String what) {
        if (!it) {
            Edges.fails(what);
        }
    }

    private static Map<String, Method> face() {
        Map<String, Method> face = new TreeMap<>();
        for (Method m : FirstParts.class.getDeclaredMethods()) {
            if (Modifier.isPublic(m.getModifiers())) {
                face.put(m.getName(), m);
            }
        }
        return face;
    }

    private static List<String> tests() throws IOException {
        List<String> names = new ArrayList<>();
        try (Stream<Path> files = Files.list(Path.of("src/test/java"))) {
            files.forEach(f -> names.add(f.getFileName().toString().replace(".java", "")));
        }
        return names;
    }

    /** A block goes on with the run of the one ahead of it, unless it makes a new object. */
    private static void runs(String readme) {
        Matcher block = Pattern.compile("(?ms)^```java\n(.*?)^```$").matcher(readme);
        while (block.find()) {
            for (String line : block.group(1).split("\n")) {
                if (line.equals(NEW_OBJECT)) {
                    before = Edges.nothing();
                } else if (before == null) {
                    Edges.fails("there is no object yet: " + line);
                } else {
                    shownLine(line);
                }
            }
        }
        holds(before != null, "no run is shown");
    }

    private static void shownLine(String line) {
        Matcher call = CALL.matcher(line);
        Matcher writing = WRITING.matcher(line);
        if (call.matches() && FACE.containsKey(call.group(1))) {
            check(line, callOf(FACE.get(call.group(1)), call.group(2)), call.group(3), call.group(4));
            shown.add(call.group(1));
        } else if (writing.matches()) {
            int times = writing.group(2) == null ? 1 : Integer.parseInt(writing.group(2));
            check(line, writingOf(writing.group(1).repeat(times)), writing.group(3), writing.group(4));
            shown.add("write");
        } else {
            Edges.fails("a line that is no call with its answer: " + line);
        }
    }

    private static void check(String line, Edges.Call call, String number, String name) {
        int want = Integer.parseInt(number);
        holds(name == null ? want >= 0 : NAMED.getOrDefault(name, 0) == want, "this answer has another name: " + line);
        if (want < FirstParts.NONE) {
            Edges.refused(line, before, call, want);
        } else {
            Edges.due(line, before, call, want);
        }
        if (name != null) {
            answered.add(name);
        }
        before = Edges.then(before, call::on);
    }

    private static Edges.Call callOf(Method method, String numbers) {
        String[] each = numbers.isEmpty() ? new String[0] : numbers.split(", ");
        Object[] given = new Object[each.length];
        for (int i = 0; i < each.length; i++) {
            given[i] = Integer.parseInt(each[i]);
        }
        return x -> answerOf(x, method, given);
    }

    private static int answerOf(FirstParts x, Method method, Object[] given) {
        try {
            return (Integer) method.invoke(x, given);
        } catch (IllegalAccessException | InvocationTargetException | IllegalArgumentException e) {
            throw new IllegalStateException("README.md shows a call that cannot be made: " + method.getName(), e);
        }
    }

    private static Edges.Call writingOf(String text) {
        return x -> {
            int answer = 0;
            for (char c : text.toCharArray()) {
                answer = x.write(c);
            }
            return answer;
        };
    }
}
