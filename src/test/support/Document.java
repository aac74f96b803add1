import java.io.IOException;
import java.nio.file.Files;
import java.nio.file.Path;
import java.util.LinkedHashMap;
import java.util.Map;
import java.util.regex.Pattern;

/** The document by its sections, and which of its words a test has quoted. */
final class Document {
    private static final Path FILE = Path.of("../shared/DOC.md");
    private static final Pattern HEADING = Pattern.compile(
        "## Promise \\d+: .*|## .*|# .*|The stream|Paths|Texts|Actions|Errors");
    /** Stands for each sign of quoted words; the document has no such sign. */
    private static final String QUOTED = "\u0001";
    private static final Map<String, StringBuilder> SECTIONS = read();

    private Document() {
    }

    private static Map<String, StringBuilder> read() {
        Map<String, StringBuilder> sections = new LinkedHashMap<>();
        try {
            StringBuilder section = new StringBuilder();
            for (String line : Files.readAllLines(FILE)) {
                if (HEADING.matcher(line).matches()) {
                    section = new StringBuilder();
                    sections.put(nameOf(line), section);
                } else {
                    section.append(line).append(' ');
                }
            }
        } catch (IOException e) {
            System.out.println("no document at " + FILE + ": the tests' words are not compared with its words");
            sections.clear();
        }
        sections.replaceAll((name, text) -> new StringBuilder(withoutSignature(plain(text.toString()))));
        return sections;
    }

    private static String nameOf(String heading) {
        return heading.replaceFirst("^#+ ", "").replaceFirst("^(Promise \\d+): .*", "$1");
    }

    /** A promise begins with its signature and perhaps the name of a group of promises. */
    private static String withoutSignature(String section) {
        return section.replaceFirst("^`[^`]*` (---- [a-z, ]+ (?=[A-Z]))?", "");
    }

    private static String plain(String words) {
        return words.replaceAll("\\s+", " ").trim();
    }

    /** Marks words of a section as quoted; each word is quoted once, by the test of its own sentence. */
    static void quote(String section, String words) {
        if (SECTIONS.isEmpty()) {
            return;
        }
        StringBuilder text = SECTIONS.get(section);
        String quoted = plain(words);
        String marked = quoted.replaceAll("\\S", QUOTED);
        int at = text == null ? -1 : text.indexOf(quoted);
        if (at >= 0) {
            text.replace(at, at + quoted.length(), marked);
        } else {
            Checks.fail("the document has no such words, or has them quoted already");
        }
    }

    /** The words of the description and of the promises that no test has quoted. */
    static String unquoted() {
        StringBuilder left = new StringBuilder();
        SECTIONS.forEach((name, text) -> {
            boolean binds = name.matches("Promise \\d+|Description|What it is|The stream|Paths|Texts|Actions|Errors");
            String words = text.toString()
                .replaceAll(QUOTED, "")
                .replaceAll("`[a-z]+`", "").replaceAll("[-.:; ]+", " ").trim();
            if (binds && !words.isEmpty()) {
                left.append(name).append(": ").append(words).append('\n');
            }
        });
        return left.toString();
    }
}
