import java.lang.reflect.Field;
import java.lang.reflect.InvocationTargetException;
import java.lang.reflect.Method;

/**
 * Runs calls that are written as in the document, "reset(2) = 4; connect(0, 1, 1, 0) = 1", on a new
 * object, and prints every call whose answer is not the one that stands behind it. An answer may be
 * a number or the name of a constant. "text(...)" is no call of the class: it empties the text and
 * types what stands between the outer brackets.
 */
final class Script {
    private static int calls = 0;
    private static int wrong = 0;

    private Script() {
    }

    static void run(String name, String... parts) {
        HeaderSpaceNetwork network = new HeaderSpaceNetwork();
        for (String part : parts) {
            for (String step : part.split(";")) {
                if (!step.isBlank()) {
                    runStep(name, network, step.trim());
                }
            }
        }
    }

    /** Ends the test's program, with exit code 1 if an answer was wrong. */
    static void end() {
        System.out.println(calls + " calls, " + wrong + " wrong");
        if (wrong != 0) {
            System.exit(1);
        }
    }

    /** For what is no call: a test's own finding. */
    static void due(String what, long got, long want) {
        calls++;
        if (got != want) {
            wrong++;
            System.out.println(what + " is " + got + ", due is " + want);
        }
    }

    private static void runStep(String name, HeaderSpaceNetwork network, String step) {
        if (step.startsWith("text(")) {
            retype(network, step.substring(5, step.lastIndexOf(')')));
            return;
        }
        int open = step.indexOf('(');
        int close = step.lastIndexOf(')');
        int equal = step.lastIndexOf('=');
        if (open < 0 || close < open || equal < close) {
            throw new IllegalStateException(name + ": can't be read: " + step);
        }
        long got = call(network, step.substring(0, open), step.substring(open + 1, close));
        due(name + ": " + step.substring(0, close + 1), got, number(step.substring(equal + 1).trim()));
    }

    private static void retype(HeaderSpaceNetwork network, String text) {
        network.clearText();
        for (char character : text.toCharArray()) {
            network.type(character);
        }
    }

    private static long call(HeaderSpaceNetwork network, String name, String arguments) {
        String[] words = arguments.isBlank() ? new String[0] : arguments.split(",");
        Method method = methodOf(name, words.length);
        Object[] values = new Object[words.length];
        for (int i = 0; i < words.length; i++) {
            values[i] = value(words[i].trim(), method.getParameterTypes()[i]);
        }
        try {
            return ((Number) method.invoke(network, values)).longValue();
        } catch (InvocationTargetException | IllegalAccessException e) {
            throw new IllegalStateException(name + "(" + arguments + ") threw", e);
        }
    }

    private static Method methodOf(String name, int arguments) {
        for (Method method : HeaderSpaceNetwork.class.getMethods()) {
            if (method.getName().equals(name) && method.getParameterCount() == arguments) {
                return method;
            }
        }
        throw new IllegalStateException("no method " + name + " with " + arguments + " arguments");
    }

    private static Object value(String word, Class<?> type) {
        if (type == boolean.class) {
            return Boolean.valueOf(word);
        }
        if (type == char.class) {
            return word.startsWith("'") ? word.charAt(1) : (char) Integer.parseInt(word);
        }
        return Integer.valueOf(word);
    }

    private static long number(String word) {
        if (word.matches("-?[0-9]+")) {
            return Long.parseLong(word);
        }
        try {
            Field constant = HeaderSpaceNetwork.class.getField(word);
            return constant.getLong(null);
        } catch (NoSuchFieldException | IllegalAccessException e) {
            throw new IllegalStateException("no number: " + word, e);
        }
    }
}
