import java.io.IOException;
import java.lang.reflect.Constructor;
import java.lang.reflect.Executable;
import java.lang.reflect.Field;
import java.lang.reflect.Method;
import java.lang.reflect.Modifier;
import java.nio.file.Files;
import java.nio.file.Path;
import java.util.ArrayList;
import java.util.List;
import java.util.Set;
import java.util.TreeSet;
import java.util.regex.Matcher;
import java.util.regex.Pattern;

/**
 * The face of the document, and those rules of LANGUAGE.md that a program can look at; what is printed
 * begins with the rule's number.
 */
public final class LanguageTest {
    private static final Path SOURCE = Path.of("src/main/java/HeaderSpaceNetwork.java");
    /** Of the library that rule 4 allows, what the class uses; another call has to be looked up there. */
    private static final Set<String> LIBRARY = Set.of("java/lang/Object.<init>:()V", "java/util/Arrays.fill:([JJ)V",
        "java/util/Arrays.fill:([II)V", "java/lang/Math.min:(II)I", "java/lang/Long.bitCount:(J)I");
    private static final Class<?> FACE = HeaderSpaceNetwork.class;

    private static int wrong = 0;

    private LanguageTest() {
    }

    public static void main(String[] args) throws IOException {
        checkFace();
        for (Class<?> type : types()) {
            checkFields(type);
            checkMethods(type);
        }
        checkClasses();
        checkSource(Files.readString(SOURCE));
        checkCalls();
        checkLater();
        System.out.println(wrong + " wrong");
        if (wrong != 0) {
            System.exit(1);
        }
    }

    private static void check(boolean right, String what) {
        if (!right) {
            wrong++;
            System.out.println(what);
        }
    }

    private static List<Class<?>> types() {
        List<Class<?>> types = new ArrayList<>(List.of(FACE));
        types.addAll(List.of(FACE.getDeclaredClasses()));
        return types;
    }

    /** The public members, written as the document's face has them but for the names of parameters. */
    private static void checkFace() {
        check(FACE.getModifiers() == (Modifier.PUBLIC | Modifier.FINAL), "1: the class is not public final");
        Set<String> due = new TreeSet<>();
        for (String line : new Document().face()) {
            due.add(line.replaceAll("(int|long|char|boolean) \\w+(?=[,)])", "$1").replace("Long.MIN_VALUE",
                Long.MIN_VALUE + ""));
        }
        Set<String> members = new TreeSet<>();
        for (Field field : FACE.getDeclaredFields()) {
            addMember(field.getModifiers(), field, members);
        }
        for (Method method : FACE.getDeclaredMethods()) {
            addMember(method.getModifiers(), method, members);
        }
        for (Constructor<?> constructor : FACE.getDeclaredConstructors()) {
            addMember(constructor.getModifiers(), constructor, members);
        }
        check(due.size() == 7 + 1 + 36, "the document's face has " + due.size() + " members");
        check(members.equals(due), "1: the members are " + members);
    }

    private static void addMember(int modifiers, Object member, Set<String> members) {
        if (Modifier.isPublic(modifiers)) {
            String told = member.toString().replace("HeaderSpaceNetwork.", "").replace(",", ", ");
            members.add(told + (member instanceof Field field ? " = " + valueOf(field) : "") + ";");
        } else {
            check(Modifier.isPrivate(modifiers), "1: " + member + " is not private");
        }
    }

    private static long valueOf(Field constant) {
        try {
            return constant.getLong(null);
        } catch (IllegalAccessException e) {
            throw new IllegalStateException(e);
        }
    }

    private static void checkFields(Class<?> type) {
        int fields = 0;
        for (Field field : type.getDeclaredFields()) {
            Class<?> held = field.getType();
            if (Modifier.isStatic(field.getModifiers())) {
                check(Modifier.isFinal(field.getModifiers()), "5: " + field + " is not final");
                check(Set.of(int.class, long.class, boolean.class, char.class, String.class, int[].class, long[].class,
                    char[].class, byte[].class).contains(held), "5: " + field + " has another type");
            } else {
                fields++;
                Class<?> element = held.isArray() ? held.getComponentType() : held;
                check(element.isPrimitive() || types().contains(element), "3: " + field + " has another type");
            }
        }
        check(fields <= 20, "11: " + type + " has " + fields + " fields");
    }

    private static void checkMethods(Class<?> type) {
        Set<String> face = new TreeSet<>();
        for (Method method : FACE.getMethods()) {
            face.add(method.getName());
        }
        List<Executable> all = new ArrayList<>(List.of(type.getDeclaredMethods()));
        all.addAll(List.of(type.getDeclaredConstructors()));
        for (Executable method : all) {
            check(method.getParameterCount() <= 7, "11: " + method + " has too many parameters");
            boolean hidden = type != FACE || !Modifier.isPublic(method.getModifiers());
            check(!hidden || !face.contains(method.getName()), "1: " + method + " bears the name of a public one");
        }
    }

    private static void checkClasses() {
        Class<?>[] inside = FACE.getDeclaredClasses();
        check(inside.length <= 11, "11: there are " + inside.length + " classes inside");
        for (Class<?> type : inside) {
            check(Modifier.isStatic(type.getModifiers()), "2: " + type + " is not static");
            check(Modifier.isPrivate(type.getModifiers()), "1: " + type + " is not private");
            check(type.getDeclaredClasses().length == 0, "2: " + type + " has classes inside");
            // A constructor may call methods of its own class only if none can override them.
            check(Modifier.isFinal(type.getModifiers()), "12: " + type + " is not final");
        }
    }

    private static void checkCalls() {
        Calls calls = new Calls(types());
        check(calls.size() > 100, "javap told of " + calls.size() + " methods only");
        for (String called : calls.ofLibrary()) {
            check(LIBRARY.contains(called), "4: the library's " + called + " is called");
        }
        int deepest = calls.deepest();
        check(deepest >= 4 && deepest <= 8, "11: calls go " + deepest + " deep");
        System.out.println("calls go " + deepest + " deep");
    }

    /** What calls answer after the 512th is free, but they may not throw or fail to end. */
    private static void checkLater() {
        HeaderSpaceNetwork network = new HeaderSpaceNetwork();
        for (int i = 0; i < 20_000; i++) {
            network.insertForward(i % 7, i % 6, i % 16, i % 17, i % 13, i % 15);
            network.connect(i % 6, i % 5, i / 3 % 6, i / 5 % 4);
            network.addPolicy(i % 2 == 0, i % 6, i % 4, i % 5, i % 3);
            network.type((char) ('!' + i % 32));
            network.moveRule(i % 6, i % 7, i % 5);
            network.cutSize(i % 6, i % 4);
            network.readRule(i % 6);
            network.violated();
        }
        check(network.count(4) == 12 && network.count(0) == 4, "7: what 160000 calls left behind");
    }

    private static void checkSource(String source) {
        String code = source.replaceAll("(?s)/\\*.*?\\*/", "").replaceAll("//[^\n]*", "")
            .replaceAll("'[^']'", "' '").replaceAll("\"[^\"\n]*\"", "\"\"");
        for (String word : new String[] {"throw", "throws", "try", "catch", "finally", "synchronized",
            "assert", "->", "::", "package", "Object", "Random", "System\\.(?!arraycopy)", "Exact",
            "equals", "hashCode", "toString", "while", "static \\{", "volatile", "transient", "native"}) {
            String bounded = Character.isLetter(word.charAt(0)) ? "\\b" + word : word;
            check(!Pattern.compile(bounded).matcher(code).find(), "6: the source has " + word);
        }
        Matcher imports = Pattern.compile("import ([^;]*);").matcher(code);
        while (imports.find()) {
            check(imports.group(1).matches("java\\.util\\.(Arrays|ArrayList|List|Iterator)"), "4: " + imports.group());
        }
        Matcher loops = Pattern.compile("\\bfor \\(([^\n]*)\\) \\{").matcher(code);
        while (loops.find()) {
            check(loops.group(1).matches("int (\\w+) = [^;]*;.*\\b\\1 (<|<=|>|>=) .*; \\1(\\+\\+|--)"),
                "9: no end can be seen of " + loops.group());
        }
        check(source.chars().allMatch(c -> c == '\n' || c >= 32 && c < 127), "4: a sign that is not ASCII");
        checkLengths(source);
    }

    /** A method begins at a line that ends with ") {" under a class, and ends at its bracket. */
    private static void checkLengths(String source) {
        String[] lines = source.split("\n");
        for (int i = 0; i < lines.length; i++) {
            Matcher head = Pattern.compile("^( {4}| {8})[a-zA-Z][^=;]*\\) \\{$").matcher(lines[i]);
            if (head.matches() && !lines[i].trim().matches("(if|for|while|switch).*")) {
                int end = i;
                while (!lines[end].equals(head.group(1) + "}")) {
                    end++;
                }
                check(end - i < 60, "11: too long: " + lines[i]);
            }
        }
    }
}
