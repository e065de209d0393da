import java.io.IOException;
import java.nio.file.Files;
import java.nio.file.Path;
import java.util.List;
import java.util.Set;
import java.util.TreeSet;
import java.util.regex.Matcher;
import java.util.regex.Pattern;
import java.util.stream.Collectors;
import java.util.stream.Stream;

/** Each promise and each term has tests that say which sentence they hold, and those sentences are the document's. */
public final class SentencesTests {
    private static final Pattern HOLDS = Pattern.compile("due\\.holds\\((\"[^\"]*\"|I+V?), (\"(?:[^\"\\\\]|\\\\.)*\"(?:\\s*\\+\\s*\"(?:[^\"\\\\]|\\\\.)*\")*)\\)");

    public static void main(String[] args) throws IOException {
        Due due = new Due("SentencesTests");
        Path document = Path.of("../shared/DOC.md");
        String text = plain(Files.readString(document));
        Set<String> held = new TreeSet<>();
        for (Path file : tests()) {
            Matcher m = HOLDS.matcher(Files.readString(file));
            while (m.find()) {
                String sentence = plain(m.group(2).replaceAll("\"\\s*\\+\\s*\"", "").replaceAll("^\"|\"$", ""));
                due.is("the document has \"" + sentence + "\"", text.contains(sentence), true);
                held.add(m.group(1).startsWith("\"") ? m.group(1).replace("\"", "") : "Term " + m.group(1));
            }
        }
        for (int promise = 1; promise <= 34; promise++) {
            due.is("a test holds promise " + promise, held.contains("Promise " + promise), true);
        }
        for (String term : new String[] {"I", "II", "III", "IV"}) {
            due.is("a test holds term " + term, held.contains("Term " + term), true);
        }
        due.finish();
    }

    private static List<Path> tests() throws IOException {
        try (Stream<Path> files = Files.list(Path.of("src/test/java"))) {
            return files.filter(f -> f.toString().endsWith("Tests.java")).sorted().collect(Collectors.toList());
        }
    }

    private static String plain(String text) {
        return text.replaceAll("\\s+", " ");
    }
}
