import java.io.IOException;
import java.nio.file.Files;
import java.nio.file.Path;
import java.util.Map;
import java.util.TreeMap;
import java.util.regex.Matcher;
import java.util.regex.Pattern;

/**
 * The sections of the document by the names that tests use: promise1 to promise27 (without the method's
 * head), term1 to term4, and others: what it says beside those. Each has its words in one row.
 */
public final class Document {
    private static final Path PLACE = Path.of("../shared/DOC.md");
    private static final Pattern PROMISE =
            Pattern.compile("## (Promise \\d+): [^\\n]*\\n+`[^`]*`: (.*?)(?=\\n## |\\z)", Pattern.DOTALL);
    private static final Pattern TERM =
            Pattern.compile("==== (\\d+)\\. (.*?)(?=\\n==== |\\nAll memory)", Pattern.DOTALL);
    private static final Pattern OTHER = Pattern.compile(
            "An object is used for[^\\n]*|All memory is[^\\n]*|The constants:[^\\n]*");

    private Document() {
    }

    public static boolean isThere() {
        return Files.isReadable(PLACE);
    }

    /** None, if the document is not there. */
    public static Map<String, String> sections() throws IOException {
        Map<String, String> sections = new TreeMap<>();
        if (!isThere()) {
            return sections;
        }
        String all = Files.readString(PLACE);
        for (Matcher m = PROMISE.matcher(all); m.find();) {
            sections.put(m.group(1).replace("Promise ", "promise"), inOneRow(m.group(2)));
        }
        for (Matcher m = TERM.matcher(all); m.find();) {
            sections.put("term" + m.group(1), inOneRow(m.group(2)));
        }
        StringBuilder others = new StringBuilder();
        for (Matcher m = OTHER.matcher(all); m.find();) {
            others.append(m.group()).append(' ');
        }
        sections.put("others", inOneRow(others.toString()));
        return sections;
    }

    private static String inOneRow(String words) {
        return words.replaceAll("```(text)?", " ").replaceAll("\\s+", " ").trim();
    }
}
