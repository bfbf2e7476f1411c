import java.io.IOException;
import java.nio.file.Files;
import java.nio.file.Path;
import java.util.ArrayList;
import java.util.BitSet;
import java.util.LinkedHashMap;
import java.util.List;
import java.util.Map;
import java.util.regex.Matcher;
import java.util.regex.Pattern;

/**
 * DOC.md by its sections, and which words of them the edges quote: a quote must stand in its section, and every word
 * that names an edge must stand in a quote.
 */
final class Document {
    private static final Path FILE = Path.of("../shared/DOC.md");
    private static final Pattern EDGE = Pattern.compile("-?\\d+|NONE|\\b(?:none|no|nothing|false|true|refused|empty|wraps|if|else"
        + "|without|can't|at most|up to|below|above|fewer|more|at first|free|six|any|anew|least|greatest|latest|alone)\\b");
    private static final Pattern TERM = Pattern.compile("([IV]+)\\. .*");
    private static final Map<String, String> SECTIONS = new LinkedHashMap<>();
    private static final Map<String, BitSet> QUOTED = new LinkedHashMap<>();

    private Document() {
    }

    static void read() throws IOException {
        String section = "";
        for (String line : Files.readAllLines(FILE)) {
            Matcher term = TERM.matcher(line);
            if (line.startsWith("## ")) {
                section = line.substring(3).replaceAll(":.*", "");
            } else if (term.matches()) {
                section = "Terms " + term.group(1);
            } else if (line.startsWith("A call that is refused")) {
                section = "Terms, behind VII";
            }
            if (!line.startsWith("#") && !line.startsWith("```")) {
                String words = line.replaceAll("^`[^`]*`: ", "").replaceAll("^[IV]+\\. ", "");
                SECTIONS.merge(section, words, (a, b) -> (a + " " + b).replaceAll("\\s+", " ").trim());
            }
        }
        SECTIONS.remove("");
        SECTIONS.remove("The public face");
        SECTIONS.remove("Not promised");
        SECTIONS.keySet().forEach(s -> QUOTED.put(s, new BitSet()));
    }

    static void quote(String section, String words) {
        String all = SECTIONS.getOrDefault(section, "");
        int at = all.indexOf(words);
        Due.is(section + " has the words \"" + words + "\"", at >= 0, true);
        if (at >= 0) {
            QUOTED.get(section).set(at, at + words.length());
        }
    }

    /** Every section is there, and each of its words that names an edge is quoted. */
    static void isCovered() {
        Due.is("sections", SECTIONS.size(), 1 + 1 + 7 + 1 + 39);
        for (Map.Entry<String, String> section : SECTIONS.entrySet()) {
            List<String> left = new ArrayList<>();
            Matcher m = EDGE.matcher(section.getValue());
            while (m.find()) {
                if (!QUOTED.get(section.getKey()).get(m.start())) {
                    int from = Math.max(0, m.start() - 20);
                    left.add(section.getValue().substring(from, Math.min(section.getValue().length(), m.end() + 20)));
                }
            }
            Due.is(section.getKey() + " is quoted but for " + left, left.size(), 0);
        }
    }
}
