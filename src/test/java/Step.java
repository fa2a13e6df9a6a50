import java.lang.reflect.Field;
import java.util.ArrayList;
import java.util.List;

/**
 * A call with the answer that is due, written as in the document: "connect(0, 1, 1, 0) = 1". An
 * answer may also be the name of a constant. Three forms stand for several calls:
 * "text(0:1***!)" empties the text and types what stands between the outer brackets (no answers are
 * looked at); "3 * undo() = ?" makes a call three times, and "= ?" looks at no answer; and in
 * "other(<0..5>, 1) = NO_SUCH_PLACE" the argument takes values outside of 0 to 5, on both sides.
 */
record Step(String name, int[] arguments, boolean asked, long due) {
    private static final int LARGEST = Integer.MAX_VALUE;
    private static final int SMALLEST = Integer.MIN_VALUE;

    static List<Step> read(String... parts) {
        List<Step> steps = new ArrayList<>();
        for (String part : parts) {
            for (String words : part.split(";")) {
                if (!words.isBlank()) {
                    readOne(words.trim(), steps);
                }
            }
        }
        return steps;
    }

    /** Whether the call is to report an error, or that there is nothing. */
    boolean isRefused() {
        return asked && due < 0;
    }

    String told() {
        return Caller.told(name, arguments);
    }

    private static void readOne(String words, List<Step> steps) {
        if (words.startsWith("text(")) {
            steps.add(new Step("clearText", new int[0], false, 0));
            for (char character : words.substring(5, words.lastIndexOf(')')).toCharArray()) {
                steps.add(new Step("type", new int[] {character}, false, 0));
            }
            return;
        }
        int times = 1;
        String rest = words;
        if (words.matches("[0-9]+ \\* .*")) {
            times = Integer.parseInt(words.substring(0, words.indexOf(' ')));
            rest = words.substring(words.indexOf('*') + 1).trim();
        }
        int open = rest.indexOf('(');
        int close = rest.lastIndexOf(')');
        int equal = rest.lastIndexOf('=');
        if (open < 0 || close < open || equal < close) {
            throw new IllegalStateException("can't be read: " + words);
        }
        String inside = rest.substring(open + 1, close);
        String[] arguments = inside.isBlank() ? new String[0] : inside.split(",");
        String answer = rest.substring(equal + 1).trim();
        for (int i = 0; i < times; i++) {
            addCalls(rest.substring(0, open), arguments, answer, steps);
        }
    }

    private static void addCalls(String name, String[] arguments, String answer, List<Step> steps) {
        boolean asked = !answer.equals("?");
        long due = asked ? number(answer) : 0;
        int ranged = -1;
        int[] values = new int[arguments.length];
        for (int i = 0; i < arguments.length; i++) {
            if (arguments[i].trim().startsWith("<")) {
                ranged = i;
            } else {
                values[i] = argument(arguments[i].trim());
            }
        }
        if (ranged < 0) {
            steps.add(new Step(name, values, asked, due));
            return;
        }
        for (int outside : outside(arguments[ranged].trim())) {
            int[] wrong = values.clone();
            wrong[ranged] = outside;
            steps.add(new Step(name, wrong, asked, due));
        }
    }

    /**
     * The values next to the range, the smallest and largest int, and those that would lie in it if
     * only some of their bits were looked at. "<0..>" has no upper end.
     */
    private static List<Integer> outside(String range) {
        int dots = range.indexOf("..");
        int low = Integer.parseInt(range.substring(1, dots));
        String end = range.substring(dots + 2, range.length() - 1);
        long high = end.isEmpty() ? LARGEST : Integer.parseInt(end);
        List<Integer> values = new ArrayList<>();
        long[] tried = {low - 1L, high + 1, SMALLEST, LARGEST, (long) SMALLEST + low, low + 32L, low + 64L,
            low + 256L, low + 65536L, low - 32L, low - 64L};
        for (long value : tried) {
            if ((value < low || value > high) && value >= SMALLEST && value <= LARGEST
                && !values.contains((int) value)) {
                values.add((int) value);
            }
        }
        return values;
    }

    private static int argument(String word) {
        return switch (word) {
            case "true" -> 1;
            case "false" -> 0;
            case "MIN" -> SMALLEST;
            case "MAX" -> LARGEST;
            default -> word.startsWith("'") ? word.charAt(1) : Integer.parseInt(word);
        };
    }

    private static long number(String word) {
        if (word.matches("-?[0-9]+")) {
            return Long.parseLong(word);
        }
        try {
            Field constant = HeaderSpaceNetwork.class.getField(word);
            return constant.getLong(null);
        } catch (NoSuchFieldException | IllegalAccessException e) {
            throw new IllegalStateException("no number: " + word, e);
        }
    }
}
