import java.io.IOException;
import java.lang.reflect.Constructor;
import java.lang.reflect.Field;
import java.lang.reflect.Method;
import java.lang.reflect.Modifier;
import java.nio.charset.StandardCharsets;
import java.nio.file.Files;
import java.nio.file.Path;
import java.util.List;
import java.util.Map;
import java.util.Set;
import java.util.TreeMap;
import java.util.TreeSet;
import java.util.regex.Matcher;
import java.util.regex.Pattern;

/** The public face, and those rules of LANGUAGE.md that can be seen in the class and its source. */
public final class FaceTest {
    private static final Check check = new Check();
    private static final Set<String> METHODS = Set.of(
            "int day(int,int,int,int)", "int ofPerson(int,int)", "int come(int,int)", "int runOut(int,int)",
            "int bell(int,boolean)", "long bells()", "int served(int)", "int queue(int,int)", "long waits(int)",
            "int best(int,int)", "int calm(int)", "int loss()", "int ringer(int,int)", "int pays(int,int)",
            "int reading(int,int)", "int back(int)", "int which(int)", "int noon(int)", "int sheet(int,int,int)",
            "int lose(int)", "int put(int,int,int)", "long cell(int,int,int)", "int copy(int,int,int,int,int)",
            "int tell(int)", "int greet(int)", "int as(int,int)", "int trace()", "int fault()", "int many(int)");

    public static void main(String[] args) throws IOException {
        face();
        constants();
        classesInside();
        source();
        check.end();
    }

    private static void is(String what, boolean holds) {
        check.due(what, holds ? 1 : 0, 1);
    }

    private static String told(Method method) {
        StringBuilder told = new StringBuilder(method.getReturnType() + " " + method.getName() + "(");
        for (Class<?> type : method.getParameterTypes()) told.append(type).append(',');
        if (method.getParameterCount() > 0) told.setLength(told.length() - 1);
        return told.append(')').toString();
    }

    private static void face() {
        is("public and final", Modifier.isPublic(TurnQueue.class.getModifiers()) && Modifier.isFinal(TurnQueue.class.getModifiers()));
        Set<String> open = new TreeSet<>();
        Set<String> names = new TreeSet<>();
        for (Method method : TurnQueue.class.getDeclaredMethods()) {
            if (Modifier.isPrivate(method.getModifiers())) continue;
            is(told(method) + " is public and of an object", method.getModifiers() == Modifier.PUBLIC);
            open.add(told(method));
            names.add(method.getName());
        }
        is("the methods are " + open, open.equals(METHODS));
        for (Method method : TurnQueue.class.getDeclaredMethods()) {
            if (Modifier.isPrivate(method.getModifiers())) is(method + " has a name of its own", !names.contains(method.getName()));
        }
        for (Class<?> inside : TurnQueue.class.getDeclaredClasses()) {
            for (Method method : inside.getDeclaredMethods()) is(method + " has a name of its own", !names.contains(method.getName()));
        }
        Constructor<?>[] constructors = TurnQueue.class.getDeclaredConstructors();
        is("one constructor, public, of nothing", constructors.length == 1
                && constructors[0].getModifiers() == Modifier.PUBLIC && constructors[0].getParameterCount() == 0);
    }

    private static void constants() {
        check.due("UNKNOWN", TurnQueue.UNKNOWN, -1);
        check.due("OUTSIDE", TurnQueue.OUTSIDE, -2);
        check.due("STATE", TurnQueue.STATE, -3);
        check.due("FULL", TurnQueue.FULL, -4);
        check.due("NONE", TurnQueue.NONE, -9);
        check.due("LOST", TurnQueue.LOST, Long.MIN_VALUE);
        Set<String> open = new TreeSet<>();
        for (Field field : TurnQueue.class.getDeclaredFields()) {
            if (!Modifier.isPrivate(field.getModifiers())) open.add(field.getType() + " " + field.getName());
        }
        is("the constants are " + open, open.equals(
                Set.of("int UNKNOWN", "int OUTSIDE", "int STATE", "int FULL", "int NONE", "long LOST")));
    }

    private static void classesInside() {
        is("at most twelve classes", TurnQueue.class.getDeclaredClasses().length < 12);
        fields(TurnQueue.class);
        for (Class<?> inside : TurnQueue.class.getDeclaredClasses()) {
            is(inside + " is static", Modifier.isStatic(inside.getModifiers()));
            is(inside + " is not open", !Modifier.isPublic(inside.getModifiers()) && !Modifier.isProtected(inside.getModifiers()));
            fields(inside);
        }
    }

    private static void fields(Class<?> one) {
        int own = 0;
        for (Field field : one.getDeclaredFields()) {
            if (!Modifier.isStatic(field.getModifiers())) own++;
            else is(field + " is final", Modifier.isFinal(field.getModifiers()));
        }
        is(one + " has at most twenty fields", own <= 20);
        for (Method method : one.getDeclaredMethods()) is(method + " takes at most seven", method.getParameterCount() <= 7);
    }

    private static void source() throws IOException {
        String text = Files.readString(Path.of("src/main/java/TurnQueue.java"), StandardCharsets.US_ASCII);
        String code = text.replaceAll("(?s)/\\*.*?\\*/", "").replaceAll("//[^\n]*", "");
        for (String word : List.of("throw", "throws", "try", "catch", "synchronized", "assert", "import", "package",
                "equals", "hashCode", "toString", "double", "float", "volatile", "transient", "native", "goto")) {
            is("no " + word, !code.matches("(?s).*\\b" + word + "\\b.*"));
        }
        for (String sign : List.of("->", "::", "\t")) is("no " + sign, !code.contains(sign));
        is("no loop without a bound", !code.matches("(?s).*(for \\(;|while \\(true).*"));
        lengthOfMethods(code.split("\n"));
        objectsAreMadeOnce(code.split("\n"));
        is("no texts, so none are joined", !code.contains("\""));
        depthOfCalls(code.split("\n"));
    }

    /** A method of a class inside ends with its closing brace at its own indent, as all here do. */
    private static void lengthOfMethods(String[] lines) {
        int begun = -1;
        for (int k = 0; k < lines.length; k++) {
            if (lines[k].matches(" {4,8}[^ }].*\\) \\{")) begun = k;
            if (begun >= 0 && lines[k].matches(" {4,8}\\}")) {
                is(lines[begun].trim() + " is short", k - begun <= 60);
                begun = -1;
            }
        }
    }

    /** Methods of one name are taken as one, so that the depth found may be too great, but not too small. */
    private static void depthOfCalls(String[] lines) {
        Map<String, Set<String>> calls = new TreeMap<>();
        Pattern head = Pattern.compile(" {4,8}[^ }=;]+( [^ }=;]+)* (\\w+)\\([^()]*\\) \\{");
        Pattern call = Pattern.compile("\\b([a-z]\\w*)\\(");
        String within = "";
        for (String line : lines) {
            Matcher begins = head.matcher(line);
            if (begins.matches()) calls.putIfAbsent(within = begins.group(2), new TreeSet<>());
            else if (!within.isEmpty()) for (Matcher found = call.matcher(line); found.find(); ) calls.get(within).add(found.group(1));
        }
        for (Method method : TurnQueue.class.getDeclaredMethods()) is(method + " is found in the source", calls.containsKey(method.getName()));
        for (String name : calls.keySet()) is(name + " goes at most eight deep", depth(calls, name, 0) <= 8);
    }

    /** How many calls stand open at once, this one and the library's too; a recursion goes beyond all bounds. */
    private static int depth(Map<String, Set<String>> calls, String name, int above) {
        int deepest = 0;
        if (above > 20) return 1000;
        for (String called : calls.getOrDefault(name, Set.of())) deepest = Math.max(deepest, depth(calls, called, above + 1));
        return 1 + deepest;
    }

    /** All calls of a run share one room: rows and objects are made with the object, not by calls. */
    private static void objectsAreMadeOnce(String[] lines) {
        for (String line : lines) {
            if (!line.contains("new ")) continue;
            is("made once: " + line.trim(), line.matches(" +(private )?final [A-Za-z\\[\\]]+ [a-zA-Z]+ = new .*")
                    || line.contains("sheets[k] = new Sheet();"));
        }
    }
}
