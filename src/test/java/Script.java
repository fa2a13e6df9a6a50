/**
 * Runs calls that are written as in the document, "reset(2) = 4; connect(0, 1, 1, 0) = 1", on a new
 * object, and prints every call whose answer is not the one that stands behind it. Step says how
 * calls are written.
 */
final class Script {
    private static int calls = 0;
    private static int wrong = 0;

    private Script() {
    }

    static void run(String name, String... parts) {
        Caller network = new Caller();
        for (Step step : Step.read(parts)) {
            runStep(name, network, step);
        }
    }

    static void runStep(String name, Caller network, Step step) {
        long got = network.call(step.name(), step.arguments());
        if (step.asked()) {
            due(name + ": " + step.told(), got, step.due());
        }
    }

    /** Ends the test's program, with exit code 1 if an answer was wrong. */
    static void end() {
        System.out.println(calls + " calls, " + wrong + " wrong");
        if (wrong != 0) {
            System.exit(1);
        }
    }

    /** For what is no call: a test's own finding. */
    static void due(String what, long got, long want) {
        calls++;
        if (got != want) {
            wrong++;
            System.out.println(what + " is " + got + ", due is " + want);
        }
    }
}
