import java.io.IOException;
import java.lang.reflect.Method;
import java.lang.reflect.Modifier;
import java.nio.file.Files;
import java.nio.file.Path;
import java.util.List;
import java.util.Map;
import java.util.Set;
import java.util.TreeMap;
import java.util.TreeSet;
import java.util.regex.Matcher;
import java.util.regex.Pattern;

/** README.md: each call of its examples answers as told there, and its tables name every call and every test. */
public final class ReadmeTest {
    private static final Check check = new Check();
    private static final Pattern CALL = Pattern.compile("queue\\.(\\w+)\\(([^)]*)\\); +// (-?\\d+|LOST)\\b.*");
    private static final Pattern ROW = Pattern.compile("\\| `(\\w+)\\(([^)]*)\\)` \\|.*");

    public static void main(String[] args) throws Exception {
        List<String> lines = Files.readAllLines(Path.of("README.md"));
        examples(lines);
        callsOfTheTable(lines);
        testsOfTheTable(String.join("\n", lines));
        check.end();
    }

    private static Map<String, Method> face() {
        Map<String, Method> face = new TreeMap<>();
        for (Method method : TurnQueue.class.getDeclaredMethods()) {
            if (Modifier.isPublic(method.getModifiers())) face.put(method.getName(), method);
        }
        return face;
    }

    /** The examples are one run of calls on one object, through the whole page. */
    private static void examples(List<String> lines) throws Exception {
        Map<String, Method> face = face();
        TurnQueue queue = null;
        String text = "";
        int calls = 0;
        for (String line : lines) {
            if (line.startsWith("TurnQueue queue = new TurnQueue();")) queue = new TurnQueue();
            if (line.startsWith("String text = ")) text = line.substring(line.indexOf('"') + 1, line.lastIndexOf('"'));
            if (line.startsWith("for (")) {
                for (int i = 0; i < text.length(); i++) queue.put(0, i, text.charAt(i));
            }
            if (!line.startsWith("queue.")) continue;
            Matcher call = CALL.matcher(line);
            check.truth("it tells its answer: " + line, call.matches());
            if (!call.matches()) continue;
            long want = call.group(3).equals("LOST") ? TurnQueue.LOST : Long.parseLong(call.group(3));
            Object got = face.get(call.group(1)).invoke(queue, numbers(call.group(2)));
            check.due(line, ((Number) got).longValue(), want);
            calls++;
        }
        check.truth("there are examples", calls > 20);
    }

    private static Object[] numbers(String told) {
        if (told.isEmpty()) return new Object[0];
        String[] words = told.split(", ");
        Object[] numbers = new Object[words.length];
        for (int k = 0; k < words.length; k++) {
            numbers[k] = words[k].equals("true") ? (Object) true : (Object) Integer.valueOf(words[k]);
        }
        return numbers;
    }

    private static void callsOfTheTable(List<String> lines) {
        Set<String> want = new TreeSet<>();
        for (Method method : face().values()) want.add(method.getName() + " of " + method.getParameterCount());
        Set<String> got = new TreeSet<>();
        for (String line : lines) {
            Matcher row = ROW.matcher(line);
            if (!row.matches()) continue;
            int count = row.group(2).isEmpty() ? 0 : row.group(2).split(", ").length;
            check.truth("told once: " + row.group(1), got.add(row.group(1) + " of " + count));
        }
        check.same("the calls of the table", got.toString(), want.toString());
    }

    private static void testsOfTheTable(String page) throws IOException {
        try (var files = Files.list(Path.of("src/test/java"))) {
            for (Path file : files.toList()) {
                String name = file.getFileName().toString().replace(".java", "");
                if (name.endsWith("Test")) check.truth("the page names " + name, page.contains("`" + name + "`"));
            }
        }
    }
}
