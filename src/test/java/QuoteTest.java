import java.io.IOException;
import java.nio.file.DirectoryStream;
import java.nio.file.Files;
import java.nio.file.Path;
import java.util.Arrays;
import java.util.regex.Matcher;
import java.util.regex.Pattern;

/** The Edge tests quote the document's own words, and between them all that its Terms and promises say. */
public final class QuoteTest {
    private static final Path DOCUMENT = Path.of("../shared/DOC.md");
    private static final Pattern QUOTE = Pattern.compile("Check\\.of\\((\"(?:[^\"\\\\]|\\\\.)*\")\\);");

    public static void main(String[] args) throws IOException {
        if (!Files.exists(DOCUMENT)) {
            System.out.println("there is no " + DOCUMENT);
            return;
        }
        String said = saidBy(Files.readString(DOCUMENT));
        boolean[] quoted = new boolean[said.length()];
        try (DirectoryStream<Path> tests = Files.newDirectoryStream(Path.of("src/test/java"), "Edge*Test.java")) {
            for (Path test : tests) {
                markQuotes(test, said, quoted);
            }
        }
        dueAllQuoted(said, quoted);
        Check.finish();
    }

    /** The Terms and promises, in one line, without headings, the calls they are of, and what is not text. */
    private static String saidBy(String document) {
        int begin = document.indexOf("## Terms");
        int end = document.indexOf("## Not promised");
        Check.due("the document has Terms, and ends as it did", begin >= 0 && end > begin, true);
        return document.substring(Math.max(0, begin), Math.max(0, end))
                .replaceAll("(?m)^## .*$", "").replaceAll("(?m)^```.*$", "").replaceAll("(?m)^`[^`]*`:", "")
                .replaceAll("==== \\d\\.", "").replaceAll("\\s+", " ");
    }

    private static void markQuotes(Path test, String said, boolean[] quoted) throws IOException {
        Matcher quotes = QUOTE.matcher(Files.readString(test));
        while (quotes.find()) {
            String words = quotes.group(1).substring(1, quotes.group(1).length() - 1).translateEscapes();
            int at = said.indexOf(words);
            Check.due(test.getFileName() + " quotes the document: " + words, at >= 0 || Files.readString(DOCUMENT).contains(words), true);
            while (at >= 0) {
                Arrays.fill(quoted, at, at + words.length(), true);
                at = said.indexOf(words, at + 1);
            }
        }
    }

    private static void dueAllQuoted(String said, boolean[] quoted) {
        int from = 0;
        for (int i = 0; i <= said.length(); i++) {
            if (i == said.length() || quoted[i]) {
                String left = said.substring(from, i);
                if (!left.isEmpty()) {
                    Check.due("an Edge test quotes: " + left, left.matches("[^a-zA-Z0-9]*"), true);
                }
                from = i + 1;
            }
        }
    }
}
