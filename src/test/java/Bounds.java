import java.io.IOException;
import java.lang.reflect.InvocationTargetException;
import java.lang.reflect.Method;
import java.util.Arrays;
import java.util.Comparator;
import java.util.List;
import java.util.function.Supplier;
import java.util.function.ToIntFunction;

/** Runs the tests of a class that are named after a sentence, and counts the answers that are not as due. */
final class Bounds {
    private static final int BAD = -1;
    private static Method test;
    private static int made;
    private static int wrong;

    private Bounds() {
    }

    static void run(Class<?> tests) throws IOException, IllegalAccessException {
        Doc doc = Doc.read();
        int sentences = 0;
        for (Method m : inOrder(tests)) {
            test = m;
            int before = made;
            quotes(doc, m.getAnnotation(Says.class));
            call(m);
            if (made == before) {
                report("asks for nothing");
            }
            sentences++;
        }
        System.out.println(tests.getName() + ": " + sentences + " tests, " + made + " answers, " + wrong + " not as due");
        if (wrong != 0 || sentences == 0) {
            System.exit(1);
        }
    }

    static List<Method> inOrder(Class<?> tests) {
        return Arrays.stream(tests.getDeclaredMethods()).filter(m -> m.isAnnotationPresent(Says.class))
            .sorted(Comparator.comparing(Method::getName)).toList();
    }

    private static void quotes(Doc doc, Says says) {
        if (doc == null) {
            return;
        }
        String text = doc.text(says.at());
        int place = text.indexOf(says.text());
        if (place < 0 || place != text.lastIndexOf(says.text())) {
            report("these words do not stand once in the document there");
        }
    }

    /** A call that throws is wrong, but the other tests are run all the same. */
    private static void call(Method m) throws IllegalAccessException {
        m.setAccessible(true);
        try {
            m.invoke(null);
        } catch (InvocationTargetException e) {
            report("threw " + e.getCause());
        }
    }

    private static void report(String what) {
        Says says = test.getAnnotation(Says.class);
        wrong++;
        System.out.println(test.getName() + " (" + says.at() + ", \"" + says.text() + "\"): " + what);
    }

    static void due(String call, long got, long want) {
        made++;
        if (got != want) {
            report(call + " answered " + got + ", due is " + want);
        }
    }

    /** Due answers, one behind the other. */
    static void dueAll(String calls, int[] got, int... want) {
        made++;
        if (!Arrays.equals(got, want)) {
            report(calls + " answered " + Arrays.toString(got) + ", due is " + Arrays.toString(want));
        }
    }

    /** Of two objects made alike one is asked: its answer is due, and both tell the same behind it. */
    static void asked(String call, Supplier<VillageBall> maker, ToIntFunction<VillageBall> asks, int want) {
        VillageBall one = maker.get();
        VillageBall other = maker.get();
        due(call, asks.applyAsInt(one), want);
        List<Integer> of = Look.all(one);
        List<Integer> without = Look.all(other);
        made++;
        if (!of.equals(without)) {
            report(call + " changed what is told from " + without + " to " + of);
        }
    }

    /** BAD for each of these numbers, and all is as it was. */
    static void bad(String call, Supplier<VillageBall> maker, Ask asks, int... numbers) {
        for (int v : numbers) {
            asked(call + " with " + v, maker, x -> asks.of(x, v), BAD);
        }
    }

    /** A call in which one number is the one that is tried. */
    interface Ask {
        int of(VillageBall x, int v);
    }
}
