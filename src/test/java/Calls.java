import java.io.PrintWriter;
import java.io.StringWriter;
import java.util.ArrayList;
import java.util.List;
import java.util.Map;
import java.util.Set;
import java.util.TreeMap;
import java.util.TreeSet;
import java.util.regex.Matcher;
import java.util.regex.Pattern;
import java.util.spi.ToolProvider;

/** Who calls whom, as javap tells of the compiled classes: methods of the file and of the library. */
final class Calls {
    private static final Pattern CLASS = Pattern.compile("^(?:\\w+ )*class (HeaderSpaceNetwork\\S*) \\{");
    private static final Pattern START = Pattern.compile("^  [^ ].*?([\\w$]+)\\(.*\\);$");
    private static final Pattern OWN = Pattern.compile(
        "// Method (?:(HeaderSpaceNetwork[\\w$]*)\\.)?(\"<init>\"|\\w+):");
    private static final Pattern LIBRARY = Pattern.compile("// (?:Interface)?Method \"?(\\[|java/)(\\S+)$");
    private static final int TOO_DEEP = 50;

    private final Map<String, Set<String>> own = new TreeMap<>();
    private final Set<String> library = new TreeSet<>();

    Calls(List<Class<?>> types) {
        String type = "";
        String method = "";
        for (String line : told(types).split("\\R")) {
            Matcher head = CLASS.matcher(line);
            Matcher start = START.matcher(line);
            Matcher call = OWN.matcher(line);
            Matcher foreign = LIBRARY.matcher(line);
            if (head.find()) {
                type = head.group(1);
            } else if (start.find()) {
                method = type + "." + (start.group(1).startsWith("HeaderSpaceNetwork") ? "<init>" : start.group(1));
                own.putIfAbsent(method, new TreeSet<>());
            } else if (foreign.find()) {
                library.add((foreign.group(1) + foreign.group(2)).replace("\"", ""));
            } else if (call.find()) {
                String owner = call.group(1) == null ? type : call.group(1);
                own.get(method).add(owner + "." + call.group(2).replace("\"", ""));
            } else if (line.contains("Method ") || line.contains("invokedynamic")) {
                library.add(line.trim());
            }
        }
    }

    int size() {
        return own.size();
    }

    Set<String> ofLibrary() {
        return library;
    }

    int deepest() {
        int deepest = 0;
        for (String from : own.keySet()) {
            deepest = Math.max(deepest, depth(from, 0));
        }
        return deepest;
    }

    /** How many calls stand open at once at most, the method itself among them. */
    private int depth(String method, int above) {
        if (above > TOO_DEEP) {
            return above;
        }
        int deepest = 0;
        for (String called : own.getOrDefault(method, Set.of())) {
            deepest = Math.max(deepest, depth(called, above + 1));
        }
        return deepest + 1;
    }

    private static String told(List<Class<?>> types) {
        List<String> arguments = new ArrayList<>(List.of("-c", "-p", "-cp", System.getProperty("java.class.path")));
        for (Class<?> type : types) {
            arguments.add(type.getName());
        }
        StringWriter told = new StringWriter();
        PrintWriter writer = new PrintWriter(told);
        ToolProvider.findFirst("javap").orElseThrow().run(writer, writer, arguments.toArray(new String[0]));
        return told.toString();
    }
}
