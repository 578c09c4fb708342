import java.lang.reflect.Method;
import java.util.ArrayList;
import java.util.List;
import java.util.Map;
import java.util.TreeMap;

/** The words of the document that tests quote, by the part in which they stand. */
final class Quotes {
    private static final List<Class<?>> TESTS = List.of(SentencesTest.class, BoundsTermsTest.class,
        BoundsPart1Test.class, BoundsPart2Test.class, BoundsPart3Test.class, BoundsPromises1To8Test.class,
        BoundsPromises9To15Test.class, BoundsPromises16To23Test.class, BoundsPromises24To29Test.class);

    private Quotes() {
    }

    static Map<String, List<String>> byPart(List<Class<?>> tests) {
        Map<String, List<String>> quotes = new TreeMap<>();
        for (Class<?> test : tests) {
            for (Method m : Bounds.inOrder(test)) {
                Says says = m.getAnnotation(Says.class);
                quotes.computeIfAbsent(says.at(), part -> new ArrayList<>()).add(says.text());
            }
        }
        return quotes;
    }

    static List<Class<?>> ofBounds() {
        return TESTS.subList(1, TESTS.size());
    }

    static List<Class<?>> all() {
        return TESTS;
    }

    /** Whether a place of a part stands in the words of one of its tests. */
    static boolean hold(String text, List<String> quotes, int start, int end) {
        for (String quote : quotes) {
            int place = text.indexOf(quote);
            if (place >= 0 && place <= start && end <= place + quote.length()) {
                return true;
            }
        }
        return false;
    }
}
