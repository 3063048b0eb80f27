import java.io.IOException;
import java.nio.file.Files;
import java.nio.file.Path;
import java.util.ArrayList;
import java.util.Collections;
import java.util.List;
import java.util.regex.Matcher;
import java.util.regex.Pattern;
import java.util.stream.Stream;

/** Whether there is a test for every sentence of the document: each tells by says(..) for which one it stands. */
public final class SentencesTest {
    private static final Path DOCUMENT = Path.of("../shared/DOC.md"), TESTS = Path.of("src/test/java");
    /** What names the things told behind it, and tells nothing that could be asked. */
    private static final List<String> NAMES = List.of("REFUSALS:", "FAULTS are the machine's:", "A DAY by a TEXT:");
    private static final Check check = new Check();

    public static void main(String[] args) throws IOException {
        List<String> said = said();
        check.truth("there are sentences said", said.size() > 100);
        if (Files.exists(DOCUMENT)) allIsSaid(told(Files.readString(DOCUMENT)), said);
        check.end();
    }

    /** The terms and the promises, without headings, calls and marks. */
    private static String told(String document) {
        String part = document.substring(document.indexOf("## Terms"), document.indexOf("## Not promised"));
        return Check.plain(part.replaceAll("(?m)^(##|Ahead of the calls) .*$", "").replaceAll("(?m)^`[^`]*`:", "")
                .replaceAll("(?m)^==== [0-9] ", "").replaceAll("(?m)^```.*$", ""));
    }

    private static List<String> said() throws IOException {
        List<String> said = new ArrayList<>();
        Pattern call = Pattern.compile("\\.says\\(\"([^\"]*)\"\\)");
        try (Stream<Path> files = Files.list(TESTS)) {
            for (Path file : files.filter(one -> one.toString().endsWith(".java")).toList()) {
                for (Matcher found = call.matcher(Files.readString(file)); found.find(); ) said.add(Check.plain(found.group(1)));
            }
        }
        return said;
    }

    private static void allIsSaid(String told, List<String> said) {
        List<Boolean> covered = new ArrayList<>(Collections.nCopies(told.length(), false));
        List<String> words = new ArrayList<>(said);
        words.addAll(NAMES);
        for (String sentence : words) {
            for (int at = told.indexOf(sentence); at >= 0; at = told.indexOf(sentence, at + 1)) {
                Collections.fill(covered.subList(at, at + sentence.length()), true);
            }
        }
        StringBuilder left = new StringBuilder();
        for (int at = 0; at < told.length(); at++) {
            if (!covered.get(at)) left.append(told.charAt(at));
            boolean ends = covered.get(at) || at == told.length() - 1;
            if (!ends) continue;
            if (left.length() > 0) check.truth("a test stands for: " + left, !left.toString().matches(".*[A-Za-z0-9].*"));
            left.setLength(0);
        }
    }
}
