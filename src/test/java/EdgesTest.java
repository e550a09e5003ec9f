import java.io.IOException;
import java.nio.charset.StandardCharsets;
import java.nio.file.Files;
import java.nio.file.Path;
import java.util.Arrays;
import java.util.List;
import java.util.Map;
import java.util.regex.Matcher;
import java.util.regex.Pattern;

/**
 * Every edge that the document names, sentence by sentence. The words that a test is held to are
 * quoted beside it; here it is seen that they stand in the document, and that none are left out.
 */
public final class EdgesTest {
    private static final Path DOCUMENT = Path.of("..", "shared", "DOC.md");
    private static final int PROMISES = 46;

    public static void main(String[] args) throws IOException {
        Check c = new Check("EdgesTest");
        new KingdomEdges(c).all();
        new TravellerEdges(c).all();
        new TreasuryEdges(c).all();
        new HomeEdges(c).all();
        new JourneyEdges(c).all();
        new RowEdges(c).all();
        c.end();
        Check words = new Check("EdgesTest, the document's words");
        allWordsAreQuoted(words, c.quotes());
        words.end();
    }

    private static void allWordsAreQuoted(Check c, Map<Integer, List<String>> quotes) throws IOException {
        String document = Files.readString(DOCUMENT, StandardCharsets.UTF_8);
        String terms = section(document, "## Terms\n", "\nThe constants:");
        quoted(c, "Terms", terms.replaceAll("```(text)?|==== \\d\\.", " "), quotes.get(Check.TERMS));
        for (int promise = 1; promise <= PROMISES; promise++) {
            String text = section(document, "\n## Promise " + promise + ":", "\n## ");
            quoted(c, "promise " + promise, text.substring(text.indexOf("`: ") + 3), quotes.get(promise));
        }
    }

    private static String section(String document, String head, String end) {
        int from = document.indexOf(head) + head.length();
        return document.substring(from, document.indexOf(end, from));
    }

    private static String flat(String text) {
        return text.replaceAll("\\s+", " ").trim();
    }

    /** All words of a section stand in some quote, all quotes in the section. */
    private static void quoted(Check c, String name, String section, List<String> quotes) {
        String text = flat(section);
        boolean[] told = new boolean[text.length()];
        for (String words : quotes == null ? List.<String>of() : quotes) {
            String quote = flat(words);
            int at = text.indexOf(quote);
            c.holds("the words of " + name + ": " + quote, at >= 0);
            for (; at >= 0; at = text.indexOf(quote, at + 1)) {
                Arrays.fill(told, at, at + quote.length(), true);
            }
        }
        StringBuilder untold = new StringBuilder();
        for (int i = 0; i < told.length; i++) {
            untold.append(told[i] ? '\0' : text.charAt(i));
        }
        Matcher passage = Pattern.compile("[^\0]*[A-Za-z0-9][^\0]*").matcher(untold);
        while (passage.find()) {
            c.holds("a test of " + name + ": " + passage.group().trim(), false);
        }
    }
}
