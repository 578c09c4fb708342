import java.io.IOException;
import java.nio.file.Files;
import java.nio.file.Path;
import java.util.LinkedHashMap;
import java.util.Map;
import java.util.regex.Pattern;

/** The document by its parts, each as one line of text. */
final class Doc {
    private static final Path PATH = Path.of("..", "shared", "DOC.md");
    /** A call's name or face within a line; a fence is of three, and what it holds are sentences. */
    private static final Pattern CODE = Pattern.compile("(?<!`)`[^`]+`(?!`)");

    private final Map<String, StringBuilder> parts = new LinkedHashMap<>();

    private Doc() {
    }

    /** The document, or null where it is not beside the project. */
    static Doc read() throws IOException {
        if (!Files.isReadable(PATH)) {
            return null;
        }
        Doc doc = new Doc();
        String part = "";
        for (String line : Files.readAllLines(PATH)) {
            part = partOf(line, part);
            doc.parts.computeIfAbsent(part, name -> new StringBuilder()).append(wordsOf(line)).append(' ');
        }
        return doc;
    }

    private static String partOf(String line, String part) {
        if (line.startsWith("## Promise ")) {
            return line.substring(3, line.indexOf(':'));
        }
        if (line.startsWith("## ")) {
            return line.substring(3);
        }
        if (line.startsWith("==== ")) {
            return line.substring(0, 6);
        }
        return line.startsWith("Ahead of the calls") ? "Ahead of the calls" : part;
    }

    /** A line without what only marks a part of the document. */
    private static String wordsOf(String line) {
        boolean isMark = line.startsWith("#") || line.startsWith("```");
        return isMark ? "" : line.replaceFirst("^==== \\d ", "").trim();
    }

    Iterable<String> names() {
        return parts.keySet();
    }

    String text(String part) {
        return parts.getOrDefault(part, new StringBuilder()).toString().replaceAll("\\s+", " ");
    }

    /** The same text, as long as it was, with blanks in place of the names and faces of calls. */
    static String withoutCode(String text) {
        return CODE.matcher(text).replaceAll(code -> " ".repeat(code.group().length()));
    }
}
