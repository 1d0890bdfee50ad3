import java.io.IOException;
import java.nio.file.Files;
import java.nio.file.Path;
import java.util.ArrayList;
import java.util.Arrays;
import java.util.List;
import java.util.regex.Matcher;
import java.util.regex.Pattern;
import java.util.stream.Stream;

/**
 * Every sentence of the document's terms and promises is quoted by a test (Due.about), and every quote stands there.
 * A quote may leave words out by " .. ".
 */
public final class SentencesTest {
    private static final Due DUE = new Due("SentencesTest");
    private static final Path DOCUMENT = Path.of("..", "shared", "DOC.md");
    private static final Path TESTS = Path.of("src", "test", "java");
    private static final Pattern ABOUT = Pattern.compile("about\\(\\s*((?:\"[^\"]*\"[\\s+]*)+)");
    private static final Pattern LITERAL = Pattern.compile("\"([^\"]*)\"");

    private SentencesTest() {
    }

    public static void main(String[] args) throws IOException {
        if (!Files.exists(DOCUMENT)) {
            System.out.println("SentencesTest: there is no " + DOCUMENT + ", nothing was compared");
            return;
        }
        String words = promised(Files.readString(DOCUMENT));
        boolean[] quoted = new boolean[words.length()];
        for (Path test : tests()) {
            for (String quote : quotes(Files.readString(test))) {
                mark(test, quote, words, quoted);
            }
        }
        unquoted(words, quoted);
        DUE.end();
    }

    /** From the sentence on 512 calls up to what is not promised, without headings, the face and marks of the page. */
    private static String promised(String document) {
        StringBuilder words = new StringBuilder();
        boolean promises = false;
        for (String line : document.replaceAll("(?s)```java.*?```", "").split("\n")) {
            promises |= line.startsWith("An object is used");
            promises &= !line.startsWith("## Not promised");
            if (promises && !line.startsWith("#") && !line.startsWith("```")) {
                words.append(line).append(' ');
            }
        }
        return plain(words.toString().replaceAll("==== \\d+\\.", ""));
    }

    private static String plain(String text) {
        return text.replace("`", "").replaceAll("\\s+", " ").trim();
    }

    private static List<Path> tests() throws IOException {
        try (Stream<Path> all = Files.list(TESTS)) {
            return all.filter(each -> each.toString().endsWith("Test.java")).sorted().toList();
        }
    }

    private static List<String> quotes(String test) {
        List<String> found = new ArrayList<>();
        Matcher about = ABOUT.matcher(test);
        while (about.find()) {
            StringBuilder quote = new StringBuilder();
            Matcher literal = LITERAL.matcher(about.group(1));
            while (literal.find()) {
                quote.append(literal.group(1));
            }
            found.add(plain(quote.toString()));
        }
        return found;
    }

    /** The document itself has " .. " in it, so a quote is looked for whole first. */
    private static void mark(Path test, String quote, String words, boolean[] quoted) {
        String[] parts = words.contains(quote) ? new String[] {quote} : quote.split(" ?\\.\\.,? ?");
        for (String part : parts) {
            int at = words.indexOf(part);
            DUE.is("a quote in " + test.getFileName() + ": " + part, at >= 0, true);
            while (at >= 0 && !part.isEmpty()) {
                Arrays.fill(quoted, at, at + part.length(), true);
                at = words.indexOf(part, at + 1);
            }
        }
    }

    private static void unquoted(String words, boolean[] quoted) {
        int from = 0;
        while (from < quoted.length) {
            int behind = from + 1;
            while (behind < quoted.length && quoted[behind] == quoted[from]) {
                behind++;
            }
            String stretch = words.substring(from, behind);
            if (!quoted[from]) {
                DUE.is("no test quotes: " + stretch, stretch.matches(".*[A-Za-z0-9].*"), false);
            }
            from = behind;
        }
    }
}
