/** Promises 1 to 5: a new object, reset, connect, disconnect, other. */
public final class NetworkTest {
    private NetworkTest() {
    }

    public static void main(String[] args) {
        promise1();
        promise2();
        promise3();
        promise4();
        promise5();
        Script.end();
    }

    private static void promise1() {
        Script.run("1: nothing is there",
            "count(0) = 4; count(1) = 0; count(2) = 0; count(3) = 0; count(4) = 0",
            "undo() = NONE; violated() = 0; clearPolicies() = 0; clearText() = 0",
            "other(0, 0) = NONE; other(5, 3) = NONE; rule(0, 0, 0) = NO_SUCH_RULE");
        Script.run("1: the injection",
            "arriving(0, 0) = 65535; arriving(0, 1) = 0; arriving(1, 0) = 0",
            "arrivals(0, 0) = 16; arrivals(0, 2) = 16; arrivals(1, 0) = 0",
            "trace(0, 0) = 0; trace(15, 0) = 15; trace(16, 0) = BAD_VALUE; loops() = 0");
        Script.due("1: NO_SUCH_PLACE", HeaderSpaceNetwork.NO_SUCH_PLACE, -1);
        Script.due("1: NO_SUCH_RULE", HeaderSpaceNetwork.NO_SUCH_RULE, -2);
        Script.due("1: BAD_VALUE", HeaderSpaceNetwork.BAD_VALUE, -3);
        Script.due("1: NOT_POSSIBLE", HeaderSpaceNetwork.NOT_POSSIBLE, -4);
        Script.due("1: FULL", HeaderSpaceNetwork.FULL, -5);
        Script.due("1: NONE", HeaderSpaceNetwork.NONE, -6);
        Script.due("1: NO_VALUE", HeaderSpaceNetwork.NO_VALUE, Long.MIN_VALUE);
    }

    private static void promise2() {
        Script.run("2: the previous number of bits",
            "reset(1) = 4; reset(5) = 1; reset(2) = 5; reset(2) = 2; count(0) = 2");
        Script.run("2: headers of the new number of bits",
            "reset(1) = 4; arriving(0, 0) = 3; inject(0, 0, 2, 0) = BAD_VALUE",
            "inject(0, 0, 1, 0) = 1; reset(5) = 1; arriving(0, 0) = 4294967295",
            "inject(0, 0, 31, 31) = 1; arriving(0, 0) = 2147483648; inject(0, 0, 32, 0) = BAD_VALUE");
        Script.run("2: all but the text starts anew",
            "connect(0, 1, 1, 0) = 1; insertDrop(3, 0, 15, 0, 0) = 1; insertDrop(0, 0, 1, 0, 0) = 1",
            "addPolicy(true, 1, 0, 1, 1) = 0; inject(1, 1, 15, 3) = 1; type('*') = 1; type(':') = 2",
            "reset(4) = 4; count(1) = 0; count(2) = 0; count(3) = 0; count(4) = 0",
            "other(0, 1) = NONE; other(1, 0) = NONE; undo() = NONE; shadowed(3) = 0",
            "rule(3, 0, 0) = NO_SUCH_RULE; violated() = 0; counterexamples(0) = NO_VALUE",
            "arriving(0, 0) = 65535; arriving(1, 1) = 0; arrivals(0, 2) = 16; clearText() = 2");
        Script.run("2: edits after it can be undone, those before can't",
            "insertDrop(0, 0, 1, 0, 0) = 1; reset(3) = 4; insertDrop(1, 0, 1, 0, 0) = 1",
            "undo() = 0; undo() = NONE; count(2) = 0");
        Script.run("2: wrong bits change nothing",
            "connect(0, 1, 1, 0) = 1; insertDrop(3, 0, 15, 0, 0) = 1; inject(2, 2, 0, 0) = 16",
            "reset(0) = BAD_VALUE; reset(6) = BAD_VALUE; reset(-1) = BAD_VALUE",
            "reset(2147483647) = BAD_VALUE; reset(-2147483648) = BAD_VALUE",
            "count(0) = 4; count(1) = 1; count(2) = 1; count(4) = 1; arriving(2, 2) = 65535");
    }

    private static void promise3() {
        Script.run("3: the number of links",
            "connect(0, 0, 5, 3) = 1; connect(1, 2, 1, 3) = 2; connect(4, 0, 3, 1) = 3; count(1) = 3",
            "other(0, 0) = 53; other(5, 3) = 0; other(1, 2) = 13; other(1, 3) = 12");
        Script.run("3: one link at a place, and none with itself",
            "connect(2, 0, 3, 0) = 1; connect(2, 0, 4, 0) = NOT_POSSIBLE",
            "connect(4, 0, 2, 0) = NOT_POSSIBLE; connect(3, 0, 4, 0) = NOT_POSSIBLE",
            "connect(4, 0, 3, 0) = NOT_POSSIBLE; connect(2, 0, 3, 0) = NOT_POSSIBLE",
            "connect(3, 0, 2, 0) = NOT_POSSIBLE; connect(4, 1, 4, 1) = NOT_POSSIBLE",
            "count(1) = 1; other(4, 0) = NONE; other(4, 1) = NONE; other(2, 0) = 30");
        Script.run("3: places that are not there come first",
            "connect(6, 0, 0, 0) = NO_SUCH_PLACE; connect(-1, 0, 0, 0) = NO_SUCH_PLACE",
            "connect(0, 4, 1, 0) = NO_SUCH_PLACE; connect(0, -1, 1, 0) = NO_SUCH_PLACE",
            "connect(0, 0, 6, 0) = NO_SUCH_PLACE; connect(0, 0, -1, 0) = NO_SUCH_PLACE",
            "connect(0, 0, 1, 4) = NO_SUCH_PLACE; connect(0, 0, 1, -1) = NO_SUCH_PLACE",
            "connect(6, 0, 6, 0) = NO_SUCH_PLACE; connect(0, 0, 1, 0) = 1",
            "connect(0, 0, 1, 4) = NO_SUCH_PLACE; connect(-2147483648, 0, 0, 0) = NO_SUCH_PLACE",
            "connect(2147483647, 2147483647, 0, 0) = NO_SUCH_PLACE; count(1) = 1");
        Script.run("3: a link goes in both directions",
            "connect(0, 1, 1, 0) = 1; insertForward(0, 0, 15, 0, 0, 2) = 1",
            "insertForward(1, 0, 15, 0, 0, 1) = 1; arriving(1, 0) = 65535; arriving(0, 1) = 65535");
        Script.run("3: no edit", "connect(0, 1, 1, 0) = 1; count(4) = 0; undo() = NONE; count(1) = 1");
    }

    private static void promise4() {
        Script.run("4: from either end",
            "connect(0, 1, 1, 0) = 1; connect(2, 1, 3, 0) = 2; disconnect(1, 0) = 1",
            "other(0, 1) = NONE; other(1, 0) = NONE; disconnect(0, 1) = NONE",
            "disconnect(2, 1) = 0; other(3, 0) = NONE; count(1) = 0; connect(0, 1, 3, 0) = 1");
        Script.run("4: what went over the link is delivered then",
            "connect(0, 1, 1, 0) = 1; insertForward(0, 0, 15, 0, 0, 2) = 1; delivered(0, 1) = 0",
            "disconnect(1, 0) = 0; delivered(0, 1) = 65535; arriving(1, 0) = 0; count(4) = 1");
        Script.run("4: wrong places",
            "disconnect(6, 0) = NO_SUCH_PLACE; disconnect(-1, 0) = NO_SUCH_PLACE",
            "disconnect(0, 4) = NO_SUCH_PLACE; disconnect(0, -1) = NO_SUCH_PLACE",
            "disconnect(0, 0) = NONE; disconnect(2147483647, 0) = NO_SUCH_PLACE");
    }

    private static void promise5() {
        Script.run("5: the other end",
            "connect(5, 3, 0, 0) = 1; other(5, 3) = 0; other(0, 0) = 53",
            "connect(4, 2, 4, 1) = 2; other(4, 1) = 42; other(4, 2) = 41; other(4, 0) = NONE");
        Script.run("5: wrong places",
            "other(6, 0) = NO_SUCH_PLACE; other(-1, 0) = NO_SUCH_PLACE; other(0, 4) = NO_SUCH_PLACE",
            "other(0, -1) = NO_SUCH_PLACE; other(5, -2147483648) = NO_SUCH_PLACE");
    }
}
