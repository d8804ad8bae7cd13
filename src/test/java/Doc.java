import java.io.IOException;
import java.io.UncheckedIOException;
import java.nio.file.Files;
import java.nio.file.Path;
import java.util.LinkedHashMap;
import java.util.Map;

/**
 * The parts of ../shared/DOC.md ("Terms 1" .. "Terms 4", "Promise 1" .. "Promise 49"), so that tests quote it truly.
 * Where the document does not lie beside the project, quotes are not looked up.
 */
final class Doc {
    static final int PROMISES = 49;
    private static final Path FILE = Path.of("../shared/DOC.md");
    private static final Map<String, String> PARTS = Files.exists(FILE) ? read() : null;

    private Doc() { }

    static boolean says(String part, String words) {
        return PARTS == null || PARTS.getOrDefault(part, "").contains(words);
    }

    private static Map<String, String> read() {
        Map<String, String> marks = new LinkedHashMap<>();
        marks.put("Use", "## What it is");
        marks.put("Terms 1", "## Terms");
        for (int i = 2; i <= 4; i++) marks.put("Terms " + i, "==== " + i + ".");
        for (int i = 1; i <= PROMISES; i++) marks.put("Promise " + i, "## Promise " + i + ":");
        marks.put("Not promised", "## Not promised");
        String text = text();
        Map<String, String> parts = new LinkedHashMap<>();
        String name = "";
        int from = 0;
        for (Map.Entry<String, String> mark : marks.entrySet()) {
            int to = text.indexOf(mark.getValue(), from);
            if (to < 0) throw new IllegalStateException("the document has no " + mark.getValue());
            parts.put(name, text.substring(from, to));
            name = mark.getKey();
            from = to;
        }
        parts.put(name, text.substring(from));
        return parts;
    }

    private static String text() {
        try {
            return Files.readString(FILE).replaceAll("\\s+", " ");
        } catch (IOException e) {
            throw new UncheckedIOException(e);
        }
    }
}
