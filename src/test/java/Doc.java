import java.io.IOException;
import java.nio.charset.StandardCharsets;
import java.nio.file.Files;
import java.nio.file.Path;
import java.util.ArrayList;
import java.util.BitSet;
import java.util.LinkedHashMap;
import java.util.List;
import java.util.Map;

/** The document's words, section by section, and which of them a test has quoted. */
final class Doc {
    private static final Path FILE = Path.of("../shared/DOC.md");
    private final Map<String, String> texts = new LinkedHashMap<>();
    private final Map<String, BitSet> quoted = new LinkedHashMap<>();

    Doc() throws IOException {
        for (String part : Files.readString(FILE, StandardCharsets.UTF_8).split("(?m)^## ")) {
            int end = part.indexOf('\n');
            String title = end < 0 ? part : part.substring(0, end);
            String section = title.replaceAll("^Promise (\\d+):.*", "$1").trim();
            texts.put(section, plain(part.substring(title.length())));
            quoted.put(section, new BitSet());
        }
    }

    /** Without what frames the words: the fences, the heads of the calls, what the interface says ahead of them. */
    private static String plain(String body) {
        return body.replaceAll("(?m)^Ahead of the calls .*$", "").replaceAll("(?m)^```.*$", "")
            .replaceAll("(?m)^======== \\d", "").replaceAll("(?m)^`[^`]*`: ", "").replaceAll("\\s+", " ").trim();
    }

    /** Whether the words stand in that section; they count as quoted then. */
    boolean quote(String section, String words) {
        String text = texts.getOrDefault(section, "");
        int at = text.indexOf(words);
        if (at < 0 || words.isEmpty()) {
            return false;
        }
        quoted.get(section).set(at, at + words.length());
        return true;
    }

    /** What no test has quoted of the terms and of the promises. */
    List<String> unquoted() {
        List<String> all = new ArrayList<>();
        for (Map.Entry<String, String> e : texts.entrySet()) {
            if (e.getKey().equals("Terms") || e.getKey().matches("\\d+")) {
                addUnquoted(e.getKey(), e.getValue(), all);
            }
        }
        return all;
    }

    private void addUnquoted(String section, String text, List<String> all) {
        BitSet is = quoted.get(section);
        for (int at = is.nextClearBit(0); at < text.length(); at = is.nextClearBit(at)) {
            int end = is.nextSetBit(at);
            end = end < 0 ? text.length() : end;
            String gap = text.substring(at, end);
            if (gap.matches(".*[A-Za-z0-9].*")) {
                all.add(section + ": " + gap.trim());
            }
            at = end;
        }
    }

    int promises() {
        int n = 0;
        for (String section : texts.keySet()) {
            n += section.matches("\\d+") ? 1 : 0;
        }
        return n;
    }
}
