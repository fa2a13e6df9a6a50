import java.io.IOException;
import java.io.UncheckedIOException;
import java.nio.file.Files;
import java.nio.file.Path;
import java.util.ArrayList;
import java.util.List;
import java.util.Map;
import java.util.TreeMap;
import java.util.regex.Matcher;
import java.util.regex.Pattern;

/**
 * The document. Its sentences: what a semicolon divides counts as two, and the sign at the end is left
 * away. The sentences of a promise stand under its number, those before promise 1 and behind the last
 * promise under 0; headings are left out. The examples and the public face are read apart.
 */
final class Document {
    private static final Path PATH = Path.of("../shared/DOC.md");
    private static final Pattern PROMISE = Pattern.compile("## Promise ([0-9]+):.*");
    private static final Pattern EXAMPLE = Pattern.compile("[0-9]\\. [^:]*: (.*)\\.");

    private final Map<Integer, List<String>> sentences = new TreeMap<>();
    private final List<String> examples = new ArrayList<>();
    private final List<String> face = new ArrayList<>();
    private final List<String> constants = new ArrayList<>();

    Document() {
        int promise = 0;
        boolean read = false;
        for (String line : lines()) {
            Matcher head = PROMISE.matcher(line);
            Matcher example = EXAMPLE.matcher(line);
            if (line.matches("- `[A-Z_]+ = .*")) {
                constants.add(line);
            }
            if (line.startsWith("## ")) {
                promise = head.matches() ? Integer.parseInt(head.group(1)) : 0;
                read = !line.equals("## The public face");
            } else if (line.startsWith("    public ")) {
                face.add(line.trim());
            } else if (read && example.matches()) {
                examples.add(example.group(1));
            } else if (read && !line.matches("|---- .*|`.*|Examples: .*|The constants:")) {
                cut(line, sentences.computeIfAbsent(promise, number -> new ArrayList<>()));
            }
        }
    }

    /** The calls of each example, with the results behind them. */
    List<String> examples() {
        return examples;
    }

    /** The lines that say what the constants mean. */
    List<String> constants() {
        return constants;
    }

    /** The lines of the public face, without the class itself. */
    List<String> face() {
        return face;
    }

    List<String> sentencesOf(int promise) {
        return sentences.getOrDefault(promise, List.of());
    }

    int lastPromise() {
        return sentences.size() - 1;
    }

    private static List<String> lines() {
        try {
            return Files.readAllLines(PATH);
        } catch (IOException e) {
            throw new UncheckedIOException("the document can't be read", e);
        }
    }

    private static void cut(String line, List<String> into) {
        String text = line.replaceFirst("^- ", "").trim();
        for (String sentence : text.split("((?<=[.;])|(?<=[.;]\\)))\\s+")) {
            if (!sentence.matches("[A-Z][a-z]+\\.")) {
                into.add(sentence.replaceFirst("[.;]$", ""));
            }
        }
    }
}
