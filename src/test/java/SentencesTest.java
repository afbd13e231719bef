import java.io.IOException;
import java.nio.file.DirectoryStream;
import java.nio.file.Files;
import java.nio.file.Path;
import java.util.Map;
import java.util.TreeMap;
import java.util.regex.Matcher;
import java.util.regex.Pattern;

/**
 * The way from the document to the tests: whatever a test quotes by Due.opening, Due.terms or
 * Due.promise stands in the document just once, and all words of 'What it is', of 'Terms' and of the
 * promises are quoted by some test. FaceTest looks at what stands between 'What it is' and 'Terms',
 * and between 'Terms' and the promises.
 */
public final class SentencesTest {
    private static final String OPENING = "What it is", TERMS = "Terms";
    private static final Pattern LITERAL = Pattern.compile("\"((?:[^\"\\\\]|\\\\.)*)\"");
    private static final Pattern QUOTE = Pattern.compile(
        "Due\\.(?:promise\\((\\d+),|(terms|opening)\\()\\s*(\"(?:[^\"\\\\]|\\\\.)*\"(?:\\s*\\+\\s*\"(?:[^\"\\\\]|\\\\.)*\")*)\\s*\\)");

    private static final Map<String, String> TEXTS = new TreeMap<>();
    private static final Map<String, boolean[]> QUOTED = new TreeMap<>();

    public static void main(String[] args) throws IOException {
        Path root = Path.of(System.getProperty("project.root", "."));
        Path document = root.resolve("../shared/DOC.md");
        if (!Files.exists(document)) {
            System.out.println("there is no document beside this checkout: what the tests quote is not looked at");
            return;
        }
        readDocument(Files.readString(document));
        Due.due("sections", TEXTS.size(), 40);
        try (DirectoryStream<Path> files = Files.newDirectoryStream(root.resolve("src/test/java"), "*Test.java")) {
            for (Path file : files) {
                readTest(file.getFileName().toString(), Files.readString(file));
            }
        }
        for (String section : TEXTS.keySet()) {
            allIsQuoted(section);
        }
        Due.finish();
    }

    private static void readDocument(String document) {
        keep(OPENING, between(document, "## What it is\n", "\n## The public face"));
        keep(TERMS, between(document, "## Terms\n", "\nAhead of the calls").replaceAll("```\\w*|======== \\d", " "));
        Matcher promise = Pattern.compile("## Promise (\\d+):[^\n]*\n\\s*`[^`]*`:([^#]*)").matcher(document);
        while (promise.find()) {
            keep("Promise " + promise.group(1), promise.group(2));
        }
    }

    private static String between(String text, String from, String to) {
        int start = text.indexOf(from) + from.length();
        return text.substring(start, text.indexOf(to, start));
    }

    private static void keep(String section, String text) {
        String plain = oneLine(text);
        TEXTS.put(section, plain);
        QUOTED.put(section, new boolean[plain.length()]);
    }

    private static String oneLine(String text) {
        return text.replaceAll("\\s+", " ").trim();
    }

    private static void readTest(String file, String source) {
        Matcher quote = QUOTE.matcher(source);
        while (quote.find()) {
            StringBuilder words = new StringBuilder();
            Matcher literal = LITERAL.matcher(quote.group(3));
            while (literal.find()) {
                words.append(literal.group(1));
            }
            markQuote(file, sectionOf(quote), oneLine(words.toString()));
        }
    }

    private static String sectionOf(Matcher quote) {
        if (quote.group(1) != null) {
            return "Promise " + quote.group(1);
        }
        return quote.group(2).equals("opening") ? OPENING : TERMS;
    }

    private static void markQuote(String file, String section, String words) {
        String text = TEXTS.getOrDefault(section, "");
        int at = text.indexOf(words);
        Due.holds(file + ": '" + words + "' stands in " + section, at >= 0);
        Due.holds(file + ": '" + words + "' stands just once in " + section, at < 0 || text.indexOf(words, at + 1) < 0);
        for (int i = Math.max(at, 0); i < at + words.length(); i++) {
            QUOTED.get(section)[i] = true;
        }
    }

    private static void allIsQuoted(String section) {
        String text = TEXTS.get(section);
        boolean[] quoted = QUOTED.get(section);
        StringBuilder left = new StringBuilder();
        for (int i = 0; i < text.length(); i++) {
            left.append(quoted[i] ? '\n' : text.charAt(i));
        }
        for (String part : left.toString().split("\n+")) {
            Due.holds(section + ": no test quotes '" + part + "'", !part.matches(".*[A-Za-z0-9].*"));
        }
    }
}
