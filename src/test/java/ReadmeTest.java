import java.io.IOException;
import java.nio.file.Files;
import java.nio.file.Path;
import java.util.ArrayList;
import java.util.List;
import java.util.regex.Matcher;
import java.util.regex.Pattern;
import java.util.stream.Stream;

/**
 * README.md against the class and the document: each block of code is an example of the document, call
 * by call; the table of constants has all of them, in the document's words; every test is listed.
 */
public final class ReadmeTest {
    private static final Path README = Path.of("README.md");
    private static final Path TESTS = Path.of("src/test/java");
    private static final Pattern BLOCK = Pattern.compile("(?s)```java\n(.*?)```");
    private static final Pattern CALL = Pattern.compile("network\\.(\\w+\\(.*\\)); +// (-?[0-9]+)(: .+)?");
    private static final Pattern CONSTANT = Pattern.compile("(?m)^\\| `([A-Z_]+)` \\| (-?[0-9]+) \\| (.*) \\|$");
    private static final Document DOCUMENT = new Document();

    private ReadmeTest() {
    }

    public static void main(String[] args) throws IOException {
        String page = Files.readString(README);
        checkExamples(page);
        checkConstants(page);
        checkTests(page);
        Script.end();
    }

    private static void isTrue(String what, boolean right) {
        Script.due(what, right ? 1 : 0, 1);
    }

    private static void checkExamples(String page) {
        List<String> told = new ArrayList<>();
        Matcher block = BLOCK.matcher(page);
        while (block.find()) {
            told.add(calls(block.group(1)));
        }
        isTrue("README has the examples of the document, in their order", told.equals(DOCUMENT.examples()));
        for (String calls : told) {
            Script.run("README", calls);
        }
    }

    /** A block of code, written as the document writes calls. */
    private static String calls(String code) {
        List<String> lines = code.lines().toList();
        isTrue("a block begins with a new object",
            lines.get(0).equals("HeaderSpaceNetwork network = new HeaderSpaceNetwork();"));
        List<String> calls = new ArrayList<>();
        for (String line : lines.subList(1, lines.size())) {
            Matcher call = CALL.matcher(line);
            isTrue("a call with its answer: " + line, call.matches());
            if (call.matches()) {
                calls.add(call.group(1) + " = " + call.group(2));
            }
        }
        return String.join("; ", calls);
    }

    private static void checkConstants(String page) {
        List<String> told = new ArrayList<>();
        Matcher row = CONSTANT.matcher(page);
        while (row.find()) {
            String value = row.group(2).equals(Long.MIN_VALUE + "") ? "Long.MIN_VALUE" : row.group(2);
            told.add("- `" + row.group(1) + " = " + value + "`: " + row.group(3));
        }
        isTrue("README has the constants of the document: " + told, told.equals(DOCUMENT.constants()));
    }

    private static void checkTests(String page) throws IOException {
        try (Stream<Path> files = Files.list(TESTS)) {
            for (Path file : files.toList()) {
                String name = file.getFileName().toString().replace(".java", "");
                if (name.endsWith("Test")) {
                    isTrue("README lists " + name, Pattern.compile("(?m)^\\|.*\\b" + name + "\\b").matcher(page).find());
                }
            }
        }
        isTrue("README tells how tests are run", page.contains("\n    .ci/run\n") && Files.isExecutable(Path.of(".ci/run")));
    }
}
