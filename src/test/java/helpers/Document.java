import java.io.IOException;
import java.nio.file.Files;
import java.nio.file.Paths;
import java.util.LinkedHashMap;
import java.util.Map;

/**
 * ../shared/DOC.md, by sections: "use" (how many calls), "Terms", "1", "2", "3" (the terms' own sections), "P1" to
 * "P28". A test quotes the words that it is for; what of the sections nobody has quoted can be told at the end.
 */
final class Document {
    private static final String PATH = "../shared/DOC.md";
    private static final Map<String, String> SECTIONS = new LinkedHashMap<>();
    private static final Map<String, boolean[]> QUOTED = new LinkedHashMap<>();

    private Document() {
    }

    /** Whether these words stand in the section; they count as quoted from now on. */
    static boolean quote(String section, String words) {
        read();
        String text = SECTIONS.getOrDefault(section, "");
        int from = text.indexOf(words);
        if (from < 0) {
            return false;
        }
        boolean[] marks = QUOTED.get(section);
        for (int i = from; i < from + words.length(); i++) {
            marks[i] = true;
        }
        return true;
    }

    /** The words that no test has quoted, each stretch behind its section's name; empty if there are none. */
    static String unquoted() {
        read();
        StringBuilder s = new StringBuilder();
        for (String section : SECTIONS.keySet()) {
            String text = SECTIONS.get(section);
            boolean[] marks = QUOTED.get(section);
            StringBuilder rest = new StringBuilder();
            for (int i = 0; i < text.length(); i++) {
                rest.append(marks[i] ? '|' : text.charAt(i));
            }
            String left = rest.toString().replaceAll("[| ]*\\|[| ]*", " | ").trim();
            if (left.matches(".*[A-Za-z0-9].*")) {
                s.append(section).append(": ").append(left).append('\n');
            }
        }
        return s.toString();
    }

    static int sections() {
        read();
        return SECTIONS.size();
    }

    /** The words of a section, in one line. */
    static String words(String section) {
        read();
        return SECTIONS.getOrDefault(section, "");
    }

    private static void read() {
        if (!SECTIONS.isEmpty()) {
            return;
        }
        String all;
        try {
            all = new String(Files.readAllBytes(Paths.get(PATH)), "UTF-8");
        } catch (IOException e) {
            throw new IllegalStateException(PATH + " cannot be read", e);
        }
        add("use", between(all, "images to go on from.\n", "## The public face"));
        String terms = between(all, "## Terms", "## Promise 1:");
        add("Terms", between(terms, "", "======== 1 "));
        add("1", between(terms, "======== 1 ", "======== 2 "));
        add("2", between(terms, "======== 2 ", "======== 3 "));
        add("3", between(terms, "======== 3 ", ""));
        for (int n = 1; n <= 28; n++) {
            String next = n < 28 ? "## Promise " + (n + 1) + ":" : "## Not promised";
            // The heading and the call's own line are no sentences.
            add("P" + n, between(between(all, "## Promise " + n + ":", next), "`: ", ""));
        }
    }

    private static String between(String text, String from, String to) {
        int start = text.indexOf(from);
        int end = to.isEmpty() ? text.length() : text.indexOf(to, Math.max(0, start));
        return start < 0 || end < 0 ? "" : text.substring(start + from.length(), end);
    }

    private static void add(String section, String text) {
        String plain = text.replace("```text", " ").replace("```", " ").replaceAll("\\s+", " ").trim();
        SECTIONS.put(section, plain);
        QUOTED.put(section, new boolean[plain.length()]);
    }
}
