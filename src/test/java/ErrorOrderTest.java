import java.util.ArrayList;
import java.util.List;
import java.util.Set;

/**
 * "Where several errors can apply, the order of the @return line is the order of the checks.": every
 * method with every choice of arguments at and beyond their bounds, the smallest and largest int among
 * them, on an empty, a filled and a full network. What is due is worked out from the table of methods
 * alone. For up to two wrong arguments also this: "A call that reports an error changes nothing."; and
 * where nothing is wrong, a call that only asks changes nothing either.
 */
public final class ErrorOrderTest {
    private static final int MIN = Integer.MIN_VALUE;
    private static final int MAX = Integer.MAX_VALUE;
    private static final long NO_ERROR = 0;

    /** Boxes 0 and 5 have two rules, a forwarding one and a dropping one; port 3 of box 5 has a link. */
    private static final String FILLED = "connect(5, 3, 2, 2) = 1; insertForward(0, 0, 15, 8, 8, 3) = 1;"
        + "insertDrop(0, 1, 15, 4, 4) = 2; insertForward(5, 0, 15, 1, 1, 9) = 1; insertDrop(5, 1, 3, 0, 0) = 2;"
        + "addPolicy(true, 0, 0, 0, 1) = 0; addPolicy(false, 5, 0, 5, 3) = 1; text(03:1***>2);";
    /** No more links, rules, policies and characters have room; the text can't be read. */
    private static final String FULL = Setups.ALL_LINKS + Setups.sixRules(0) + Setups.sixRules(5)
        + Setups.eightPolicies() + Setups.typed(0, 40, '*');
    private static final List<State> STATES = List.of(
        new State("empty", Step.read("reset(4) = 4"), 0, 0, -100),
        new State("filled", Step.read(FILLED), 2, 2, 0),
        new State("full", Step.read(FULL), 6, 8, -101));

    /** What the errors depend on; the fault is the answer of readRule, or 0. */
    private record State(String name, List<Step> steps, int rules, int policies, int fault) {
        boolean isFilled() {
            return name.equals("filled");
        }

        boolean isFull() {
            return name.equals("full");
        }
    }

    /**
     * A method: a letter for each argument (B box, P port, R rule, L place in the list, S set of ports,
     * V number of b bits, H header that must be injected, K number from 0, Y policy, T truth value, C
     * character, b bits, a digit for a number from 0 to it), and its errors in the order of the @return line.
     */
    private record Method(String name, String arguments, String errors) {
    }

    private static final List<Method> METHODS = List.of(
        new Method("reset", "b", "BAD_VALUE"),
        new Method("connect", "BPBP", "NO_SUCH_PLACE NOT_POSSIBLE"),
        new Method("disconnect", "BP", "NO_SUCH_PLACE NONE"),
        new Method("other", "BP", "NO_SUCH_PLACE NONE"),
        new Method("insertDrop", "BLSVV", "NO_SUCH_PLACE BAD_VALUE FULL"),
        new Method("insertForward", "BLSVVS", "NO_SUCH_PLACE BAD_VALUE FULL"),
        new Method("setRewriting", "BRVV", "NO_SUCH_PLACE NO_SUCH_RULE BAD_VALUE NOT_POSSIBLE"),
        new Method("removeRule", "BR", "NO_SUCH_PLACE NO_SUCH_RULE"),
        new Method("moveRule", "BRR", "NO_SUCH_PLACE NO_SUCH_RULE"),
        new Method("switchRule", "BRT", "NO_SUCH_PLACE NO_SUCH_RULE"),
        new Method("rule", "BR6", "NO_SUCH_PLACE NO_SUCH_RULE BAD_VALUE"),
        new Method("count", "4", "BAD_VALUE"),
        new Method("shadowed", "B", "NO_SUCH_PLACE"),
        new Method("inject", "BPVV", "NO_SUCH_PLACE BAD_VALUE"),
        new Method("arriving", "BP", "NO_VALUE"),
        new Method("delivered", "BP", "NO_VALUE"),
        new Method("arrivals", "B2", "NO_SUCH_PLACE BAD_VALUE"),
        new Method("hits", "BR", "NO_SUCH_PLACE NO_SUCH_RULE"),
        new Method("cube", "BPK1", "NO_SUCH_PLACE BAD_VALUE NONE"),
        new Method("origin", "BPV", "NO_SUCH_PLACE BAD_VALUE NONE"),
        new Method("distance", "HBP", "BAD_VALUE NO_SUCH_PLACE NONE"),
        new Method("trace", "HK", "BAD_VALUE NONE"),
        new Method("traceEnd", "H", "BAD_VALUE"),
        new Method("cutSize", "BP", "NO_SUCH_PLACE NONE"),
        new Method("cutRule", "BPK", "NO_SUCH_PLACE BAD_VALUE NONE"),
        new Method("addPolicy", "TBPBP", "NO_SUCH_PLACE FULL"),
        new Method("setPolicyCube", "YVV", "BAD_VALUE"),
        new Method("counterexamples", "Y", "NO_VALUE"),
        new Method("readRule", "B", "NO_SUCH_PLACE FAULT FULL"),
        new Method("type", "C", "FULL"),
        new Method("undo", "", "NONE"),
        new Method("loops", "", ""),
        new Method("violated", "", ""),
        new Method("ruleText", "BRK", "NO_SUCH_PLACE NO_SUCH_RULE BAD_VALUE NONE"));
    /** Methods that change nothing, whatever they answer. */
    private static final Set<String> ASKING = Set.of("other", "rule", "count", "shadowed", "arriving", "delivered",
        "arrivals", "hits", "cube", "origin", "distance", "trace", "traceEnd", "loops", "cutSize", "cutRule",
        "counterexamples", "violated", "ruleText");

    private final State state;
    private final Method method;
    private final List<String> before;
    private Caller network;

    private ErrorOrderTest(State state, Method method, List<String> before) {
        this.state = state;
        this.method = method;
        this.before = before;
    }

    public static void main(String[] args) {
        for (State state : STATES) {
            List<String> before = Bounds.looksAfter(state.steps());
            for (Method method : METHODS) {
                new ErrorOrderTest(state, method, before).tryAll(new int[method.arguments().length()], 0, 0, true);
            }
        }
        Script.end();
    }

    /** Chooses the arguments from one index on; near means that no wrong one is far from its bound. */
    private void tryAll(int[] arguments, int index, int wrong, boolean near) {
        if (index == arguments.length) {
            tryOne(arguments, wrong <= 2 && near);
            return;
        }
        char kind = method.arguments().charAt(index);
        for (int value : values(kind)) {
            arguments[index] = value;
            boolean right = isRight(kind, value);
            tryAll(arguments, index + 1, right ? wrong : wrong + 1, near && (right || value != MIN && value != MAX));
        }
    }

    private void tryOne(int[] arguments, boolean looking) {
        long due = due(arguments);
        if (network == null || network.left() == 0) {
            network = new Caller();
            for (Step step : state.steps()) {
                Script.runStep(state.name(), network, step);
            }
        }
        long got = network.call(method.name(), arguments);
        String told = state.name() + ": " + Caller.told(method.name(), arguments);
        boolean none = method.errors().endsWith("NONE") && got == HeaderSpaceNetwork.NONE;
        if (due != NO_ERROR) {
            Script.due(told, got, due);
        } else {
            Script.due(told + ", " + got + ", an error", got < 0 && !none ? 1 : 0, 0);
            network = null;
        }
        if (looking && (due != NO_ERROR || none || ASKING.contains(method.name()))) {
            Step made = new Step(method.name(), arguments.clone(), true, got);
            Bounds.unchanged(state.name(), state.steps(), made, before);
        }
    }

    // ---- what is due

    private long due(int[] arguments) {
        for (String error : method.errors().split(" ")) {
            for (int i = 0; i < arguments.length; i++) {
                char kind = method.arguments().charAt(i);
                if (!isRight(kind, arguments[i]) && (error.equals(errorOf(kind)) || error.equals("NO_VALUE"))) {
                    return number(error);
                }
            }
            if (stateRefuses(error, arguments)) {
                return number(error);
            }
        }
        return NO_ERROR;
    }

    private static String errorOf(char kind) {
        return switch (kind) {
            case 'B', 'P' -> "NO_SUCH_PLACE";
            case 'R' -> "NO_SUCH_RULE";
            default -> "BAD_VALUE";
        };
    }

    /** Errors that do not lie in one argument; asked only if no error before them applies. */
    private boolean stateRefuses(String error, int[] a) {
        return switch (error) {
            case "FULL" -> state.isFull() && (!method.arguments().startsWith("B") || a[0] == 0 || a[0] == 5);
            case "FAULT" -> state.fault() != 0;
            case "NONE" -> method.name().equals("undo") && state.rules() == 0;
            case "NOT_POSSIBLE" -> method.name().equals("connect") ? !canConnect(a) : state.isFull() || a[1] == 1;
            default -> false;
        };
    }

    private boolean canConnect(int[] a) {
        boolean same = a[0] == a[2] && a[1] == a[3];
        boolean linked = a[0] == 5 && a[1] == 3 || a[2] == 5 && a[3] == 3;
        return !same && !state.isFull() && !(state.isFilled() && linked);
    }

    private long number(String error) {
        return switch (error) {
            case "NO_SUCH_PLACE" -> -1;
            case "NO_SUCH_RULE" -> -2;
            case "BAD_VALUE" -> -3;
            case "NOT_POSSIBLE" -> -4;
            case "FULL" -> -5;
            case "NO_VALUE" -> Long.MIN_VALUE;
            case "NONE" -> -6;
            case "FAULT" -> state.fault();
            default -> throw new IllegalStateException(error);
        };
    }

    // ---- arguments

    private int least(char kind) {
        return kind == 'S' || kind == 'b' ? 1 : 0;
    }

    private int last(char kind) {
        return switch (kind) {
            case 'B', 'b' -> 5;
            case 'P' -> 3;
            case 'R' -> state.rules() - 1;
            case 'L' -> state.rules();
            case 'S', 'V', 'H' -> 15;
            case 'Y' -> state.policies() - 1;
            case 'T' -> 1;
            case 'C' -> Character.MAX_VALUE;
            case 'K' -> MAX;
            default -> kind - '0';
        };
    }

    private boolean isRight(char kind, int value) {
        return value >= least(kind) && value <= last(kind);
    }

    /** Both ends of the range, what lies next to them, and the ends of all ints. */
    private List<Integer> values(char kind) {
        if (kind == 'T' || kind == 'C') {
            return List.of(0, last(kind));
        }
        List<Integer> values = new ArrayList<>();
        for (long value : new long[] {MIN, least(kind) - 1, least(kind), last(kind), last(kind) + 1L, MAX}) {
            if (value <= MAX && !values.contains((int) value)) {
                values.add((int) value);
            }
        }
        return values;
    }
}
