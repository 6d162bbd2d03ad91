import java.io.IOException;
import java.nio.file.Files;
import java.nio.file.Path;
import java.util.ArrayList;
import java.util.LinkedHashMap;
import java.util.List;
import java.util.Map;

/** The document's words, section by section: which of them were quoted, and which were not. */
final class Document {
    static final String USE = "What it is";
    static final String TERMS = "Terms";
    private final Map<String, String> words = new LinkedHashMap<>();
    private final Map<String, boolean[]> quoted = new LinkedHashMap<>();

    Document() {
        String all;
        try {
            all = Files.readString(Path.of("../shared/DOC.md"));
        } catch (IOException e) {
            throw new IllegalStateException(e);
        }
        for (String section : all.split("\n## ")) {
            int end = section.indexOf('\n');
            String name = section.substring(0, end).replaceAll(":.*", "");
            String body = plain(section.substring(end).replace("```text", "").replace("```", ""));
            if (name.equals(USE)) {
                add(name, body.substring(body.indexOf("An object is used")));
            } else if (name.equals(TERMS)) {
                add(name, body.substring(body.indexOf("I. A SESSION"), body.indexOf("Ahead of the calls")));
            } else if (name.startsWith("Promise ")) {
                add(name, body.substring(body.indexOf("`: ") + 3));
            }
        }
    }

    private static String plain(String s) {
        return s.replaceAll("\\s+", " ").trim();
    }

    private void add(String section, String body) {
        words.put(section, body);
        quoted.put(section, new boolean[body.length()]);
    }

    int size() {
        return words.size();
    }

    /** Notes that the words were quoted; false if the section does not have them. */
    boolean quote(String section, String quote) {
        String body = words.get(section);
        int from = body == null ? -1 : body.indexOf(plain(quote));
        if (from < 0) {
            return false;
        }
        for (int i = from; i < from + plain(quote).length(); i++) {
            quoted.get(section)[i] = true;
        }
        return true;
    }

    /** What of the sections whose names begin so nobody quoted. */
    List<String> unquoted(String begin) {
        List<String> left = new ArrayList<>();
        for (String section : words.keySet()) {
            StringBuilder b = new StringBuilder();
            for (int i = 0; section.startsWith(begin) && i < words.get(section).length(); i++) {
                b.append(quoted.get(section)[i] ? '\n' : words.get(section).charAt(i));
            }
            for (String piece : b.toString().split("\n+")) {
                if (piece.matches(".*[A-Za-z0-9].*")) {
                    left.add(section + ": " + piece.trim());
                }
            }
        }
        return left;
    }
}
