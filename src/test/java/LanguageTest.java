import java.io.IOException;
import java.io.PrintWriter;
import java.io.StringWriter;
import java.lang.reflect.Constructor;
import java.lang.reflect.Field;
import java.lang.reflect.Method;
import java.lang.reflect.Modifier;
import java.nio.file.Files;
import java.nio.file.Path;
import java.util.ArrayList;
import java.util.List;
import java.util.Map;
import java.util.Set;
import java.util.TreeMap;
import java.util.TreeSet;
import java.util.regex.Matcher;
import java.util.regex.Pattern;
import java.util.spi.ToolProvider;

/** The face of the document, and those rules of LANGUAGE.md that can be seen from outside. */
public final class LanguageTest {
    private static final String FACE =
        "reset(int) connect(int,int,int,int) disconnect(int,int) other(int,int)"
        + " insertDrop(int,int,int,int,int) insertForward(int,int,int,int,int,int)"
        + " setRewriting(int,int,int,int) removeRule(int,int) moveRule(int,int,int)"
        + " switchRule(int,int,boolean) undo() rule(int,int,int) count(int) shadowed(int)"
        + " inject(int,int,int,int) arriving(int,int)long delivered(int,int)long arrivals(int,int)"
        + " hits(int,int) cube(int,int,int,int) origin(int,int,int) distance(int,int,int)"
        + " trace(int,int) traceEnd(int) loops()long cutSize(int,int) cutRule(int,int,int)"
        + " addPolicy(boolean,int,int,int,int) setPolicyCube(int,int,int)"
        + " counterexamples(int)long violated() clearPolicies() type(char) clearText()"
        + " readRule(int) ruleText(int,int,int)";
    private static final Set<String> CONSTANTS = Set.of("NO_SUCH_PLACE", "NO_SUCH_RULE", "BAD_VALUE",
        "NOT_POSSIBLE", "FULL", "NONE", "NO_VALUE");
    private static final Path SOURCE = Path.of("src/main/java/HeaderSpaceNetwork.java");

    private static int wrong = 0;

    private LanguageTest() {
    }

    public static void main(String[] args) throws IOException {
        checkFace();
        checkClasses();
        checkSource(Files.readString(SOURCE));
        checkDepth();
        System.out.println(wrong + " wrong");
        if (wrong != 0) {
            System.exit(1);
        }
    }

    private static void check(boolean right, String what) {
        if (!right) {
            wrong++;
            System.out.println(what);
        }
    }

    private static void checkFace() {
        Class<?> face = HeaderSpaceNetwork.class;
        check(face.getModifiers() == (Modifier.PUBLIC | Modifier.FINAL), "the class is not public final");
        Set<String> methods = new TreeSet<>();
        Set<String> hidden = new TreeSet<>();
        for (Method method : face.getDeclaredMethods()) {
            if (Modifier.isPublic(method.getModifiers())) {
                methods.add(signature(method));
                check(!Modifier.isStatic(method.getModifiers()), method + " is static");
            } else {
                hidden.add(method.getName());
                check(Modifier.isPrivate(method.getModifiers()), method + " is not private");
            }
        }
        check(methods.equals(new TreeSet<>(Set.of(FACE.split(" ")))), "the methods are " + methods);
        for (String method : FACE.split(" ")) {
            String name = method.substring(0, method.indexOf('('));
            check(!hidden.contains(name), "a private method bears the name " + name);
        }
        Constructor<?>[] constructors = face.getDeclaredConstructors();
        check(constructors.length == 1 && constructors[0].getParameterCount() == 0
            && Modifier.isPublic(constructors[0].getModifiers()), "the constructors");
        checkFields(face);
    }

    private static String signature(Method method) {
        StringBuilder signature = new StringBuilder(method.getName()).append('(');
        for (Class<?> type : method.getParameterTypes()) {
            signature.append(signature.charAt(signature.length() - 1) == '(' ? "" : ",").append(type);
        }
        return signature.append(')').append(method.getReturnType() == long.class ? "long" : "").toString();
    }

    private static void checkFields(Class<?> face) {
        Set<String> constants = new TreeSet<>();
        for (Field field : face.getDeclaredFields()) {
            int modifiers = field.getModifiers();
            if (Modifier.isPublic(modifiers)) {
                constants.add(field.getName());
                check(Modifier.isStatic(modifiers) && Modifier.isFinal(modifiers), field + "");
                check(field.getType() == (field.getName().equals("NO_VALUE") ? long.class : int.class),
                    field + " has another type");
            } else {
                check(Modifier.isPrivate(modifiers), field + " is not private");
            }
            check(!Modifier.isStatic(modifiers) || Modifier.isFinal(modifiers), field + " is not final");
        }
        check(constants.equals(new TreeSet<>(CONSTANTS)), "the constants are " + constants);
    }

    private static void checkClasses() {
        Class<?>[] inside = HeaderSpaceNetwork.class.getDeclaredClasses();
        check(inside.length <= 11, "there are " + inside.length + " classes inside");
        for (Class<?> type : inside) {
            check(Modifier.isStatic(type.getModifiers()), type + " is not static");
            check(Modifier.isPrivate(type.getModifiers()), type + " is not private");
            int fields = 0;
            for (Field field : type.getDeclaredFields()) {
                fields += Modifier.isStatic(field.getModifiers()) ? 0 : 1;
                check(!Modifier.isStatic(field.getModifiers()), field + " is static");
            }
            check(fields <= 20, type + " has " + fields + " fields");
            for (Method method : type.getDeclaredMethods()) {
                check(method.getParameterCount() <= 7, method + " has too many parameters");
            }
        }
    }

    /** Reads what javap tells of the compiled classes: who calls whom of the file's own methods. */
    private static void checkDepth() {
        String classes = System.getProperty("java.class.path");
        StringWriter told = new StringWriter();
        List<String> arguments = new ArrayList<>(List.of("-c", "-p", "-cp", classes, "HeaderSpaceNetwork"));
        for (Class<?> type : HeaderSpaceNetwork.class.getDeclaredClasses()) {
            arguments.add(type.getName());
        }
        PrintWriter writer = new PrintWriter(told);
        ToolProvider.findFirst("javap").orElseThrow().run(writer, writer, arguments.toArray(new String[0]));
        Map<String, Set<String>> calls = new TreeMap<>();
        String type = "";
        String method = "";
        for (String line : told.toString().split("\n")) {
            Matcher head = Pattern.compile("^(?:\\w+ )*class (HeaderSpaceNetwork\\S*) \\{").matcher(line);
            Matcher start = Pattern.compile("^  [^ ].*?([\\w$]+)\\(.*\\);$").matcher(line);
            Matcher call = Pattern.compile("// Method (?:(HeaderSpaceNetwork[\\w$]*)\\.)?(\"<init>\"|\\w+):")
                .matcher(line);
            if (head.find()) {
                type = head.group(1);
            } else if (start.find()) {
                method = type + "." + (start.group(1).startsWith("HeaderSpaceNetwork") ? "<init>" : start.group(1));
                calls.putIfAbsent(method, new TreeSet<>());
            } else if (call.find() && !line.contains("Method java/")) {
                String owner = call.group(1) == null ? type : call.group(1);
                calls.get(method).add(owner + "." + call.group(2).replace("\"", ""));
            }
        }
        check(calls.size() > 100, "javap told of " + calls.size() + " methods only");
        int deepest = 0;
        for (String from : calls.keySet()) {
            deepest = Math.max(deepest, depth(from, calls, 0));
        }
        check(deepest >= 4 && deepest <= 8, "calls go " + deepest + " deep");
        System.out.println("calls go " + deepest + " deep");
    }

    /** How many calls stand open at once at most, the method itself among them. */
    private static int depth(String method, Map<String, Set<String>> calls, int above) {
        if (above > 50) {
            return above;
        }
        int deepest = 0;
        for (String called : calls.getOrDefault(method, Set.of())) {
            deepest = Math.max(deepest, depth(called, calls, above + 1));
        }
        return deepest + 1;
    }

    private static void checkSource(String source) {
        String code = source.replaceAll("(?s)/\\*.*?\\*/", "").replaceAll("//[^\n]*", "")
            .replaceAll("'[^']'", "' '").replaceAll("\"[^\"\n]*\"", "\"\"");
        for (String word : new String[] {"throw", "throws", "try", "catch", "finally", "synchronized",
            "assert", "->", "::", "package", "Object", "Random", "System\\.(?!arraycopy)", "Exact",
            "equals", "hashCode", "toString", "while\\s*\\(\\s*true", "volatile", "transient", "native"}) {
            String bounded = Character.isLetter(word.charAt(0)) ? "\\b" + word : word;
            check(!Pattern.compile(bounded).matcher(code).find(), "the source has " + word);
        }
        Matcher imports = Pattern.compile("import ([^;]*);").matcher(code);
        while (imports.find()) {
            check(imports.group(1).matches("java\\.util\\.(Arrays|ArrayList|List|Iterator)"), imports.group());
        }
        check(source.chars().allMatch(c -> c == '\n' || c >= 32 && c < 127), "a sign that is not ASCII");
        checkLengths(source);
    }

    /** A method begins at a line that ends with ") {" under a class, and ends at its bracket. */
    private static void checkLengths(String source) {
        String[] lines = source.split("\n");
        for (int i = 0; i < lines.length; i++) {
            Matcher head = Pattern.compile("^( {4}| {8})[a-zA-Z][^=;]*\\) \\{$").matcher(lines[i]);
            if (head.matches() && !lines[i].trim().matches("(if|for|while|switch).*")) {
                int end = i;
                while (!lines[end].equals(head.group(1) + "}")) {
                    end++;
                }
                check(end - i < 60, "too long: " + lines[i]);
            }
        }
    }
}
