/** Promises 23 to 26: distance, trace, traceEnd, loops. */
public final class PacketsTest {
    /** A ring of boxes 0, 1, 2 by ports 1 to 0, with a shortcut from 0 to 2 for even headers. */
    private static final String RING =
        "reset(2) = 4; connect(0, 1, 1, 0) = 1; connect(1, 1, 2, 0) = 2; connect(2, 1, 0, 0) = 3;"
        + "connect(0, 2, 2, 2) = 4; insertForward(0, 0, 15, 1, 0, 6) = 1;"
        + "insertForward(0, 1, 15, 0, 0, 2) = 2; insertForward(1, 0, 1, 0, 0, 2) = 1;"
        + "insertForward(2, 0, 1, 0, 0, 10) = 1; inject(0, 3, 0, 0) = 4;";

    private PacketsTest() {
    }

    public static void main(String[] args) {
        promise23();
        promise24();
        promise25();
        promise26();
        Script.end();
    }

    private static void promise23() {
        Script.run("23: the least number of links", RING,
            "distance(0, 0, 3) = 0; distance(0, 1, 0) = 1; distance(0, 2, 2) = 1; distance(0, 2, 0) = 2",
            "distance(1, 2, 0) = 2; distance(1, 2, 2) = NONE; distance(1, 0, 0) = 3; distance(1, 0, 1) = NONE",
            "distance(1, 5, 0) = NONE");
        // Header 0 comes to boxes 1 and 2 as header 3.
        Script.run("23: with whatever header it has there",
            "reset(2) = 4; connect(0, 1, 1, 0) = 1; connect(1, 1, 2, 0) = 2",
            "insertForward(0, 0, 1, 0, 0, 2) = 1; setRewriting(0, 0, 3, 3) = 1",
            "insertForward(1, 0, 1, 3, 3, 2) = 1; distance(0, 2, 0) = 2; distance(0, 1, 0) = 1");
        Script.run("23: errors in their order", RING,
            "inject(0, 3, 1, 1) = 2; distance(0, 6, 0) = BAD_VALUE; distance(4, 0, 0) = BAD_VALUE",
            "distance(-1, 0, 0) = BAD_VALUE; distance(33, 0, 0) = BAD_VALUE; distance(65, 9, 9) = BAD_VALUE",
            "distance(1, 6, 0) = NO_SUCH_PLACE; distance(1, 0, 4) = NO_SUCH_PLACE",
            "distance(1, -1, 0) = NO_SUCH_PLACE; distance(1, 0, -1) = NO_SUCH_PLACE; distance(1, 0, 3) = 0");
    }

    private static void promise24() {
        Script.run("24: by the lowest port", RING,
            "trace(0, 0) = 300; trace(0, 1) = 1000; trace(0, 2) = 2000; trace(0, 3) = 0; trace(0, 4) = NONE",
            "trace(3, 0) = 303; trace(3, 1) = 1003; trace(3, 2) = 2003; trace(3, 3) = 3; trace(3, 4) = NONE",
            "trace(3, 2147483647) = NONE");
        Script.run("24: with rewritten headers, until it is delivered",
            "connect(0, 3, 5, 2) = 1; insertForward(0, 0, 1, 0, 0, 8) = 1; setRewriting(0, 0, 12, 8) = 1",
            "insertForward(5, 0, 15, 8, 8, 3) = 1; trace(7, 0) = 7; trace(7, 1) = 5211; trace(7, 2) = NONE");
        Script.run("24: until it is dropped or lost",
            "connect(0, 3, 5, 2) = 1; insertForward(0, 0, 1, 0, 0, 8) = 1; insertDrop(5, 0, 15, 1, 1) = 1",
            "trace(1, 1) = 5201; trace(1, 2) = NONE; trace(2, 1) = 5202; trace(2, 2) = NONE");
        // At box 0 the copy by port 0 is delivered, though another one would go on.
        Script.run("24: the copy that is followed alone",
            "connect(0, 1, 1, 0) = 1; insertForward(0, 0, 1, 0, 0, 3) = 1; trace(1, 0) = 1; trace(1, 1) = NONE",
            "traceEnd(1) = 0");
        Script.run("24: back to where it was injected",
            "connect(0, 0, 1, 0) = 1; insertForward(0, 0, 15, 0, 0, 1) = 1; insertForward(1, 0, 15, 0, 0, 1) = 1",
            "trace(5, 0) = 5; trace(5, 1) = 1005; trace(5, 2) = NONE; traceEnd(5) = 3; trace(0, 2) = NONE");
        Script.run("24: errors", "inject(0, 0, 1, 1) = 8; trace(0, 0) = BAD_VALUE; trace(16, 0) = BAD_VALUE",
            "trace(-1, 0) = BAD_VALUE; trace(1, -1) = BAD_VALUE; trace(1, -2147483648) = BAD_VALUE",
            "trace(65, 0) = BAD_VALUE; trace(1, 0) = 1");
    }

    private static void promise25() {
        Script.run("25: the four ends",
            "connect(0, 1, 1, 0) = 1; insertForward(0, 0, 1, 12, 0, 4) = 1; insertDrop(0, 1, 1, 12, 4) = 2",
            "insertForward(0, 2, 15, 12, 8, 2) = 3; insertForward(1, 0, 15, 0, 0, 1) = 1; traceEnd(0) = 0",
            "traceEnd(4) = 1; traceEnd(12) = 2; traceEnd(8) = 3");
        Script.run("25: at once, and behind links", RING,
            "traceEnd(0) = 3; switchRule(2, 0, false) = 1; traceEnd(0) = 2; insertDrop(2, 0, 15, 0, 0) = 2",
            "traceEnd(1) = 1; insertForward(2, 0, 15, 0, 0, 9) = 3; traceEnd(1) = 2; disconnect(2, 0) = 3",
            "traceEnd(1) = 0");
        Script.run("25: errors", "inject(0, 0, 1, 1) = 8; traceEnd(0) = BAD_VALUE; traceEnd(16) = BAD_VALUE",
            "traceEnd(-1) = BAD_VALUE; traceEnd(2147483647) = BAD_VALUE; traceEnd(15) = 2");
    }

    private static void promise26() {
        Script.run("26: those of the injection", RING,
            "loops() = 15; inject(0, 3, 1, 1) = 2; loops() = 10; insertDrop(1, 0, 15, 3, 3) = 2; loops() = 2",
            "disconnect(2, 1) = 3; loops() = 0");
        // A loop that only the copy by the higher port enters.
        Script.run("26: of any copy", "connect(0, 1, 1, 0) = 1; insertForward(0, 0, 15, 8, 8, 5) = 1",
            "insertForward(0, 1, 15, 0, 0, 3) = 2; insertForward(1, 0, 15, 0, 0, 1) = 1; loops() = 255",
            "traceEnd(0) = 0");
        // 0 becomes 1, 1 becomes 2, 2 becomes 3, and 3 is dropped: the same place, but no loop.
        Script.run("26: the same place with other headers is no loop",
            "reset(2) = 4; connect(0, 1, 0, 0) = 1; insertForward(0, 0, 15, 3, 0, 2) = 1",
            "setRewriting(0, 0, 3, 1) = 1; insertForward(0, 1, 15, 3, 1, 2) = 2; setRewriting(0, 1, 3, 2) = 1",
            "insertForward(0, 2, 15, 3, 2, 2) = 3; setRewriting(0, 2, 3, 3) = 1; insertDrop(0, 3, 15, 0, 0) = 4",
            "loops() = 0; trace(0, 3) = 3; traceEnd(0) = 1; setRewriting(0, 2, 3, 1) = 1; loops() = 7",
            "traceEnd(0) = 3; trace(0, 2) = 2; trace(0, 3) = NONE");
        // Header 0 meets two copies at one arrival; that is no loop.
        Script.run("26: two ways to one arrival are no loop",
            "reset(1) = 4; connect(0, 1, 1, 0) = 1; connect(0, 2, 2, 0) = 2; connect(1, 1, 3, 0) = 3",
            "connect(2, 1, 1, 2) = 4; insertForward(0, 0, 1, 0, 0, 6) = 1; insertForward(1, 0, 15, 0, 0, 2) = 1",
            "insertForward(2, 0, 1, 0, 0, 2) = 1; loops() = 0");
        Script.run("26: five bits", "reset(5) = 4; connect(0, 0, 0, 1) = 1; insertForward(0, 0, 15, 0, 0, 3) = 1",
            "loops() = 4294967295");
    }
}
