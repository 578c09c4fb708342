import java.io.IOException;
import java.lang.reflect.Constructor;
import java.lang.reflect.Field;
import java.lang.reflect.Method;
import java.lang.reflect.Modifier;
import java.nio.file.Files;
import java.nio.file.Path;
import java.util.Set;
import java.util.TreeSet;
import java.util.regex.Matcher;
import java.util.regex.Pattern;

/** The face, and those rules of LANGUAGE.md that can be seen from outside or from the words of the file. */
public final class LanguageTest {
    private static final Set<String> CONSTANTS = Set.of("BAD", "NOT", "FULL", "NONE", "NULL", "CAST", "INDEX", "SIZE");
    private static final Set<String> CALLS = Set.of("cell(int,int,int)", "at(int,int)", "thing(int,int,int)",
        "of(int,int)", "type(int)", "village()", "count(int)", "go(int,int)", "steps(int)", "melt(int)", "snow(int)",
        "drift(int)", "undo()", "seed(int)", "ahead(int)", "order(int)", "push()", "bank(int)", "lay(int,int)",
        "spare(int,int)", "image()", "restore()", "seen(int,int,int,int,int,int)", "film(int,int,int,int)",
        "sheet(int,int,int)", "drop(int)", "item(int,int,int,long)", "copy(int,int,int,int,int)");
    private static final String[] FORBIDDEN = {"\\bimport\\b", "\\bpackage\\b", "\\bthrow\\b", "\\bcatch\\b",
        "\\btry\\b", "\\bfinally\\b", "\\bassert\\b", "\\bsynchronized\\b", "->", "::", "\\bThread\\b",
        "System\\.(?!arraycopy)", "Exact\\b", "\\bhashCode\\b", "\\btoString\\b", "\\bObject\\b", "[^\\x00-\\x7f]",
        "\\bdouble\\b", "\\bfloat\\b", "while \\(true\\)", "for \\(;;\\)"};

    private static final Pattern CALL = Pattern.compile("public int (\\w+)\\(([^)]*)\\)");
    private static final Pattern SECTION =
        Pattern.compile("Ahead of the calls ((?:`\\w+`,? ?)+) ?the interface says: ---- ([^.:]*?)(?: 0 \\.\\. 3)?[.:]");

    private static int wrong;

    public static void main(String[] args) throws IOException {
        face();
        for (Class<?> nested : VillageBall.class.getDeclaredClasses()) {
            nestedClass(nested);
        }
        due(VillageBall.class.getDeclaredClasses().length <= 11, "at most some twelve classes");
        String path = args.length > 0 ? args[0] : "src/main/java/VillageBall.java";
        String text = Files.readString(Path.of(path));
        source(text);
        Doc doc = Doc.read();
        if (doc != null) {
            faceOfTheDocument(doc.text("The public face"));
            sections(doc.text("Ahead of the calls"), text);
        }
        System.out.println("LanguageTest: " + wrong + " wrong");
        if (wrong != 0) {
            System.exit(1);
        }
    }

    private static void due(boolean holds, String what) {
        if (!holds) {
            wrong++;
            System.out.println("not so: " + what);
        }
    }

    private static String sign(Method m) {
        StringBuilder sign = new StringBuilder(m.getName()).append('(');
        for (Class<?> p : m.getParameterTypes()) {
            sign.append(sign.charAt(sign.length() - 1) == '(' ? "" : ",").append(p.getName());
        }
        return sign.append(')').toString();
    }

    private static void face() {
        Class<?> c = VillageBall.class;
        due(Modifier.isPublic(c.getModifiers()) && Modifier.isFinal(c.getModifiers()), "public final class");
        Constructor<?>[] made = c.getDeclaredConstructors();
        due(made.length == 1 && Modifier.isPublic(made[0].getModifiers()) && made[0].getParameterCount() == 0,
            "one public constructor without parameters");
        Set<String> calls = new TreeSet<>();
        Set<String> names = new TreeSet<>();
        for (Method m : c.getDeclaredMethods()) {
            if (!Modifier.isPrivate(m.getModifiers())) {
                calls.add(sign(m));
                names.add(m.getName());
                due(m.getReturnType() == int.class && !Modifier.isStatic(m.getModifiers())
                    && Modifier.isPublic(m.getModifiers()), "public int " + m.getName());
            }
        }
        due(calls.equals(new TreeSet<>(CALLS)), "the calls of the face are " + calls);
        for (Method m : c.getDeclaredMethods()) {
            due(!Modifier.isPrivate(m.getModifiers()) || !names.contains(m.getName()), m.getName() + " is no public name");
            due(m.getParameterCount() <= 7, m.getName() + " takes at most seven parameters");
        }
        Set<String> constants = new TreeSet<>();
        for (Field f : c.getDeclaredFields()) {
            if (!Modifier.isPrivate(f.getModifiers())) {
                constants.add(f.getName());
                due(f.getType() == int.class, f.getName() + " is an int");
            }
            fieldRule(f);
        }
        due(constants.equals(new TreeSet<>(CONSTANTS)), "the constants of the face are " + constants);
        fieldCount(c);
    }

    /** The calls that are asked for above are those of the document. */
    private static void faceOfTheDocument(String face) {
        Set<String> calls = new TreeSet<>();
        Matcher call = CALL.matcher(face);
        while (call.find()) {
            calls.add(call.group(1) + "(" + call.group(2).replaceAll("(int|long) \\w+", "$1").replace(" ", "") + ")");
        }
        due(calls.equals(new TreeSet<>(CALLS)), "the document's calls are " + calls);
    }

    /** Behind the words that stand ahead of them in the document, the class has the same calls in the same order. */
    private static void sections(String ahead, String text) {
        Matcher said = SECTION.matcher(ahead);
        int sections = 0;
        while (said.find()) {
            sections++;
            String calls = said.group(1).replaceAll("[`,]", "").trim();
            String head = "// ---- " + said.group(2) + "\n";
            int start = text.indexOf(head);
            due(start >= 0, "the class says " + head.trim());
            int end = text.indexOf("// ---- ", start + head.length());
            due(calls.equals(callsIn(text.substring(Math.max(0, start), Math.max(start, end)))),
                head.trim() + " is ahead of " + calls);
        }
        due(sections == 4, "the document has four sections of calls");
    }

    private static String callsIn(String section) {
        StringBuilder calls = new StringBuilder();
        Matcher call = CALL.matcher(section);
        while (call.find()) {
            calls.append(calls.length() == 0 ? "" : " ").append(call.group(1));
        }
        return calls.toString();
    }

    private static void fieldRule(Field f) {
        due(!Modifier.isStatic(f.getModifiers()) || Modifier.isFinal(f.getModifiers()), f.getName() + " is final");
    }

    private static void fieldCount(Class<?> c) {
        int own = 0;
        for (Field f : c.getDeclaredFields()) {
            own += Modifier.isStatic(f.getModifiers()) ? 0 : 1;
        }
        due(own <= 20, c.getName() + " has at most some twenty fields");
    }

    private static void nestedClass(Class<?> c) {
        due(Modifier.isStatic(c.getModifiers()), c.getName() + " is static");
        due(!Modifier.isPublic(c.getModifiers()) && !Modifier.isProtected(c.getModifiers()), c.getName() + " is hidden");
        for (Method m : c.getDeclaredMethods()) {
            due(m.getParameterCount() <= 7, m.getName() + " takes at most seven parameters");
            for (String call : CALLS) {
                due(!call.startsWith(m.getName() + "("), c.getName() + "." + m.getName() + " is no public name");
            }
        }
        for (Field f : c.getDeclaredFields()) {
            fieldRule(f);
        }
        fieldCount(c);
    }

    private static void source(String text) {
        String code = text.replaceAll("(?s)/\\*.*?\\*/", "").replaceAll("//[^\n]*", "");
        for (String words : FORBIDDEN) {
            due(!Pattern.compile(words).matcher(code).find(), "the code is without " + words);
        }
        String[] lines = code.split("\n");
        for (int k = 0; k < lines.length; k++) {
            if (lines[k].matches("( {4}| {8})[a-zV].*\\) \\{")) {
                due(methodEnd(lines, k) - k <= 60, "methods stay short: " + lines[k]);
            }
        }
    }

    private static int methodEnd(String[] lines, int head) {
        String end = lines[head].replaceAll("\\S.*", "") + "}";
        int k = head;
        while (k < lines.length && !lines[k].equals(end)) {
            k++;
        }
        return k;
    }
}
