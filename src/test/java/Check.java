import java.io.IOException;
import java.lang.reflect.InvocationTargetException;
import java.lang.reflect.Method;
import java.lang.reflect.Modifier;
import java.nio.file.Files;
import java.nio.file.Path;

/** Counts the answers that are not as due, and helps to lay a text on a sheet. */
final class Check {
    private static final Path DOCUMENT = Path.of("../shared/DOC.md");
    private int asked = 0;
    private int wrong = 0;
    private int sentences = 0;
    private String sentence = "";
    private final String document;

    /** For tests that ask by no sentence of their own. */
    Check() {
        document = "";
    }

    private Check(String document) {
        this.document = document;
    }

    /** For tests each of which stands for a sentence of the document. */
    static Check byTheDocument() {
        try {
            return new Check(Files.exists(DOCUMENT) ? plain(Files.readString(DOCUMENT)) : "");
        } catch (IOException unread) {
            throw new IllegalStateException(unread);
        }
    }

    /** As the document is set in lines and marks is nothing to a sentence. */
    static String plain(String text) {
        return text.replace("`", "").replaceAll("\\s+", " ").trim();
    }

    /** What follows is asked by this sentence (or part of one), which must stand in the document as it is told here. */
    void says(String words) {
        sentences++;
        sentence = words;
        truth("the document says: " + words, document.isEmpty() || document.contains(plain(words)));
    }

    void due(String call, long got, long want) {
        asked++;
        if (got == want) return;
        wrong++;
        tell(call + " answered " + got + ", due is " + want);
    }

    /** An answer, and the fault() behind it. */
    void due(TurnQueue x, String call, long got, long want, int fault) {
        due(call, got, want);
        due("fault() behind " + call, x.fault(), fault);
    }

    void truth(String what, boolean holds) {
        asked++;
        if (holds) return;
        wrong++;
        tell("not so: " + what);
    }

    void same(String what, String got, String want) {
        asked++;
        if (got.equals(want)) return;
        wrong++;
        tell(what + " is " + got + ", due is " + want);
    }

    private void tell(String what) {
        System.out.println(what);
        if (!sentence.isEmpty()) System.out.println("    as the document says: " + sentence);
    }

    /** Ends the program, with exit code 1 if an answer was wrong. */
    void end() {
        System.out.println(asked + " answers, " + wrong + " wrong" + (sentences > 0 ? ", by " + sentences + " sentences" : ""));
        System.exit(asked > 0 && wrong == 0 ? 0 : 1);
    }

    /** Runs every test of a class, so that none can be forgotten; each must say its sentence and ask by it. */
    void runAll(Class<?> tests) {
        for (Method test : tests.getDeclaredMethods()) {
            boolean isTest = !Modifier.isPrivate(test.getModifiers()) && !test.isSynthetic()
                    && test.getParameterCount() == 0 && Modifier.isStatic(test.getModifiers());
            if (isTest) run(test);
        }
    }

    private void run(Method test) {
        int said = sentences;
        int before = asked;
        try {
            test.invoke(null);
        } catch (IllegalAccessException | InvocationTargetException thrown) {
            throw new IllegalStateException(test.getName(), thrown);
        }
        truth(test.getName() + " says its sentence and asks by it", sentences > said && asked - before > sentences - said);
        sentence = "";
    }

    /** Lays a text on sheet 0 as bytes and takes it as the day. */
    static int day(TurnQueue x, String text) {
        lay(x, 0, 0, text);
        return x.day(0, 0, 0, text.length());
    }

    static void lay(TurnQueue x, int sheet, int lane, String text) {
        x.sheet(sheet, lane, text.length());
        for (int i = 0; i < text.length(); i++) x.put(sheet, i, text.charAt(i));
    }

    /** A new object with the day that the text tells and its bells. */
    static TurnQueue with(String text, int... bells) {
        TurnQueue x = new TurnQueue();
        if (day(x, text) < 1) throw new IllegalStateException(text);
        for (int minute : bells) x.bell(minute, true);
        return x;
    }

    /** Who is being served as a minute is over, a stroke, the queue; a dot where nobody is served. */
    static String stands(TurnQueue x, int minute) {
        StringBuilder told = new StringBuilder();
        int serving = x.queue(minute, -1);
        told.append(serving == TurnQueue.NONE ? "." : String.valueOf(serving)).append('|');
        for (int k = 0; x.queue(minute, k) != TurnQueue.NONE && k < 10; k++) told.append(x.queue(minute, k));
        return told.toString();
    }

    void stands(TurnQueue x, int minute, String want) {
        same("the queue as minute " + minute + " is over", stands(x, minute), want);
    }

    /** SERVED of all, in a row. */
    void served(String what, TurnQueue x, int... minutes) {
        for (int p = 0; p < minutes.length; p++) due(what + " served(" + p + ")", x.served(p), minutes[p]);
        due(what + " served of one more", x.served(minutes.length), TurnQueue.UNKNOWN);
    }
}
