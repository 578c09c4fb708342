import java.io.IOException;
import java.util.List;
import java.util.Map;
import java.util.regex.Matcher;
import java.util.regex.Pattern;

/** Every word of the document, but those that ask for nothing, stands in the words that a test quotes. */
public final class SentencesCoverTest {
    private static final Pattern WORD = Pattern.compile("[A-Za-z0-9]+");
    /** LanguageTest compares these with the class itself. */
    private static final List<String> FACE = List.of("The public face", "Ahead of the calls");
    private static final List<String> FREE = List.of("what later calls answer is free");

    private static int words;
    private static int wrong;

    public static void main(String[] args) throws IOException {
        Doc doc = Doc.read();
        if (doc == null) {
            System.out.println("SentencesCoverTest: the document is not there to be looked at");
            return;
        }
        Map<String, List<String>> quotes = Quotes.byPart(Quotes.all());
        for (String part : doc.names()) {
            if (!FACE.contains(part) && !part.equals("Not promised")) {
                look(part, doc.text(part), quotes.getOrDefault(part, List.of()));
            }
        }
        String sheets = doc.text("Ahead of the calls").replaceFirst(".*---- 3 ", "");
        look("---- 3", sheets, quotes.getOrDefault("Ahead of the calls", List.of()));
        System.out.println("SentencesCoverTest: " + words + " words, " + wrong + " without a test");
        if (wrong != 0 || words == 0) {
            System.exit(1);
        }
    }

    private static void look(String part, String text, List<String> quotes) {
        Matcher word = WORD.matcher(Doc.withoutCode(text));
        while (word.find()) {
            words++;
            boolean isTested = Quotes.hold(text, quotes, word.start(), word.end())
                || Quotes.hold(text, FREE, word.start(), word.end());
            if (!isTested) {
                wrong++;
                System.out.println("not so: " + part + ": \"" + text.substring(Math.max(0, word.start() - 30), word.end())
                    + "\" is tested");
            }
        }
    }
}
