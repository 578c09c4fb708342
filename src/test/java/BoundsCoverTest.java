import java.io.IOException;
import java.util.List;
import java.util.Map;
import java.util.regex.Matcher;
import java.util.regex.Pattern;

/** Every place of the document that names a bound stands in the words of a test of the bounds. */
public final class BoundsCoverTest {
    private static final Pattern BOUND = Pattern.compile("\\d+ \\.\\. \\d+|\\d+ to \\d+|\\d+ at (most|least)|\\bat first\\b"
        + "|\\bnone\\b|\\bor more\\b|\\babove\\b|\\bbelow 0\\b|\\bin any case\\b|\\bfor good\\b|\\blost\\b|\\bof like ones\\b"
        + "|\\btill\\b|\\bempty\\b|\\blowest\\b|\\bleft over\\b|\\b1 or 2 digits\\b|\\bthe end\\b|\\bbeyond\\b|\\brefused\\b"
        + "|\\b(BAD|NOT|FULL|NONE|NULL|CAST|INDEX|SIZE|FAULTS?)\\b");

    private static int wrong;

    public static void main(String[] args) throws IOException {
        Doc doc = Doc.read();
        if (doc == null) {
            System.out.println("BoundsCoverTest: the document is not there to be looked at");
            return;
        }
        int bounds = 0;
        Map<String, List<String>> quotes = Quotes.byPart(Quotes.ofBounds());
        for (Map.Entry<String, List<String>> part : quotes.entrySet()) {
            bounds += look(part.getKey(), doc.text(part.getKey()), part.getValue());
        }
        for (String name : doc.names()) {
            boolean named = name.startsWith("Promise ") || name.startsWith("==== ");
            due(!named || quotes.containsKey(name), name + " has a test");
        }
        System.out.println("BoundsCoverTest: " + bounds + " bounds are named, " + wrong + " without a test");
        if (wrong != 0 || bounds == 0) {
            System.exit(1);
        }
    }

    private static void due(boolean holds, String what) {
        if (!holds) {
            wrong++;
            System.out.println("not so: " + what);
        }
    }

    private static int look(String part, String text, List<String> quotes) {
        int bounds = 0;
        Matcher found = BOUND.matcher(Doc.withoutCode(text));
        while (found.find()) {
            bounds++;
            due(Quotes.hold(text, quotes, found.start(), found.end()),
                part + ": \"" + text.substring(Math.max(0, found.start() - 30), found.end()) + "\" is tested");
        }
        return bounds;
    }
}
