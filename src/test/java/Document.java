import java.io.IOException;
import java.io.UncheckedIOException;
import java.nio.file.Files;
import java.nio.file.Path;
import java.util.ArrayList;
import java.util.List;
import java.util.Map;
import java.util.TreeMap;
import java.util.regex.Matcher;
import java.util.regex.Pattern;

/**
 * The document, cut into its sentences; what a semicolon divides counts as two, and the sign at the
 * end is left away. The sentences of a promise stand under its number, those before promise 1 under 0;
 * examples and headings are left out.
 */
final class Document {
    private static final Path PATH = Path.of("../shared/DOC.md");
    private static final Pattern PROMISE = Pattern.compile("## Promise ([0-9]+):.*");

    private final Map<Integer, List<String>> sentences = new TreeMap<>();

    Document() {
        int promise = 0;
        boolean read = false;
        for (String line : lines()) {
            Matcher head = PROMISE.matcher(line);
            if (head.matches()) {
                promise = Integer.parseInt(head.group(1));
            }
            if (line.startsWith("## ")) {
                read = head.matches() || line.equals("## Description") || line.equals("## What it is");
            } else if (read && !line.matches("|---- .*|`.*|[0-9]\\. .*|Examples: .*|The constants:")) {
                cut(line, sentences.computeIfAbsent(promise, number -> new ArrayList<>()));
            }
        }
    }

    List<String> sentencesOf(int promise) {
        return sentences.getOrDefault(promise, List.of());
    }

    int lastPromise() {
        return sentences.size() - 1;
    }

    private static List<String> lines() {
        try {
            return Files.readAllLines(PATH);
        } catch (IOException e) {
            throw new UncheckedIOException("the document can't be read", e);
        }
    }

    private static void cut(String line, List<String> into) {
        String text = line.replaceFirst("^- ", "").trim();
        for (String sentence : text.split("((?<=[.;])|(?<=[.;]\\)))\\s+")) {
            if (!sentence.matches("[A-Z][a-z]+\\.")) {
                into.add(sentence.replaceFirst("[.;]$", ""));
            }
        }
    }
}
