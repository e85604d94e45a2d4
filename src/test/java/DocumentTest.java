import java.io.IOException;
import java.nio.file.DirectoryStream;
import java.nio.file.Files;
import java.nio.file.Path;
import java.util.Arrays;
import java.util.LinkedHashMap;
import java.util.Map;
import java.util.Set;
import java.util.TreeSet;
import java.util.regex.Matcher;
import java.util.regex.Pattern;

/** That the tests go through the whole document: all its words are quoted by one, and no others. */
public final class DocumentTest {
    private static final String TEXT = "\"(?:[^\"\\\\]|\\\\.)*\"";
    private static final String TEXTS = TEXT + "(?:\\s*\\+\\s*" + TEXT + ")*";
    private static final Pattern QUOTE = Pattern.compile("Check\\.says\\((" + TEXTS + "),\\s*(" + TEXTS + ")\\)");
    private static final Pattern ONE_TEXT = Pattern.compile(TEXT);
    private static final Set<String> LINKS = Set.of("and", "or");
    private static final int PROMISES = 21;
    private static final char QUOTED = '\n';

    private final Map<String, String> sections = new LinkedHashMap<>();
    private final Map<String, char[]> unquoted = new LinkedHashMap<>();

    private DocumentTest(String document) {
        for (String section : document.split("(?m)^## ")) {
            String[] titleAndText = section.split("\n", 2);
            String text = titleAndText[1].replaceAll("(?m)^```.*$", "").replaceAll("\\s+", " ").trim();
            // The signature of a promise stands in the face too, which FaceTest looks at.
            text = text.replaceFirst("^`[^`]*`: ", "");
            String name = titleAndText[0].replaceFirst(":.*", "");
            sections.put(name, text);
            unquoted.put(name, text.toCharArray());
        }
    }

    public static void main(String[] args) throws IOException {
        DocumentTest test = new DocumentTest(Files.readString(Path.of("../shared/DOC.md")));
        try (DirectoryStream<Path> files = Files.newDirectoryStream(Path.of("src/test/java"), "Edge*Test.java")) {
            for (Path file : files) {
                test.markQuotes(file.getFileName().toString(), Files.readString(file));
            }
        }
        test.wordsLeft("Terms");
        for (int n = 1; n <= PROMISES; n++) {
            test.wordsLeft("Promise " + n);
        }
        test.promisesAreAll();
        Check.end();
    }

    private void markQuotes(String file, String source) {
        Matcher quote = QUOTE.matcher(source);
        while (quote.find()) {
            String where = joined(quote.group(1));
            String words = joined(quote.group(2));
            Check.due(file + " quotes " + where + ": " + words, mark(where, words), true);
        }
    }

    private static String joined(String texts) {
        StringBuilder made = new StringBuilder();
        Matcher text = ONE_TEXT.matcher(texts);
        while (text.find()) {
            made.append(text.group(), 1, text.group().length() - 1);
        }
        return made.toString();
    }

    /** Whether the words stand there, one part of them behind the other. */
    private boolean mark(String where, String words) {
        if (!sections.containsKey(where)) {
            return false;
        }
        StringBuilder sought = new StringBuilder();
        for (String part : words.split("\\s*\\.\\.\\.\\s*")) {
            sought.append(sought.length() == 0 ? "" : ".*?");
            sought.append('(').append(edge(part.charAt(0))).append(Pattern.quote(part));
            sought.append(edge(part.charAt(part.length() - 1))).append(')');
        }
        Matcher found = Pattern.compile(sought.toString()).matcher(sections.get(where));
        if (!found.find()) {
            return false;
        }
        for (int part = 1; part <= found.groupCount(); part++) {
            Arrays.fill(unquoted.get(where), found.start(part), found.end(part), QUOTED);
        }
        return true;
    }

    /** Words are sought whole: "any bits" is not in "many bits". */
    private static String edge(char outermost) {
        return Character.isLetterOrDigit(outermost) ? "\\b" : "";
    }

    private void wordsLeft(String where) {
        Set<String> left = new TreeSet<>(Arrays.asList(new String(unquoted.get(where)).split("\\W+")));
        left.removeAll(LINKS);
        left.remove("");
        Check.due("words of " + where + " that no test quotes", left.toString(), "[]");
    }

    private void promisesAreAll() {
        long promises = sections.keySet().stream().filter(name -> name.startsWith("Promise ")).count();
        Check.due("promises of the document", promises, PROMISES);
    }
}
