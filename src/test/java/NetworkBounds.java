/** The sentences of promises 1 to 5: a new object, reset, connect, disconnect, other. */
final class NetworkBounds {
    private NetworkBounds() {
    }

    static void run() {
        promise1();
        promise2();
        promise3();
        promise4();
        promise5();
    }

    private static void promise1() {
        Bounds.test(1, "Creates a network with headers of 4 bits, without links, rules and policies",
            "count(0) = 4; inject(0, 0, 15, 15) = 1; inject(0, 0, 16, 0) = BAD_VALUE; count(1) = 0; count(2) = 0",
            "count(3) = 0; count(4) = 0; other(0, 0) = NONE; other(5, 3) = NONE; rule(0, 0, 0) = NO_SUCH_RULE",
            "rule(5, 0, 0) = NO_SUCH_RULE; undo() = NONE; counterexamples(0) = NO_VALUE; violated() = 0",
            "clearPolicies() = 0; clearText() = 0; shadowed(0) = 0; shadowed(5) = 0; loops() = 0");
        Bounds.test(1, "the injection is the place of port 0 of box 0 with all headers",
            "arriving(0, 0) = 65535; arriving(0, 1) = 0; arriving(0, 3) = 0; arriving(1, 0) = 0; arriving(5, 3) = 0",
            "arrivals(0, 0) = 16; arrivals(1, 0) = 0; trace(0, 0) = 0; trace(15, 0) = 15; traceEnd(15) = 2",
            "trace(<0..15>, 0) = BAD_VALUE; distance(0, 0, 0) = 0; distance(15, 0, 0) = 0; distance(0, 0, 1) = NONE");
    }

    private static void promise2() {
        for (int bits = 1; bits <= 5; bits++) {
            String reset = "reset(" + bits + ") = 4;";
            Bounds.same(2, "Starts anew with headers of another number of bits",
                Setups.RICH + "clearText() = 15;" + reset, reset);
        }
        Bounds.test(2, "Starts anew with headers of another number of bits", Setups.RICH, Setups.sixRules(3),
            "reset(5) = 4; undo() = NONE; count(4) = 0; insertDrop(3, 1, 1, 0, 0) = BAD_VALUE",
            "insertDrop(3, 0, 1, 31, 31) = 1; connect(0, 1, 1, 0) = 1; addPolicy(true, 0, 0, 0, 1) = 0",
            "counterexamples(0) = 4294967295; reset(1) = 5; count(2) = 0; undo() = NONE");
        Bounds.same(2, "The text stays", Setups.RICH + "reset(4) = 4", "text(02:1*0*>13=**01)");
        Bounds.test(2, "The text stays", "reset(1) = 4; clearText() = 0;" + Setups.typed(0, 40, '*'),
            "reset(5) = 1; type('*') = FULL; clearText() = 40; reset(5) = 5; clearText() = 0");
        Bounds.test(2, "`bits`: b, 1 to 5",
            "reset(1) = 4; reset(5) = 1; reset(0) = BAD_VALUE; reset(6) = BAD_VALUE; reset(<1..5>) = BAD_VALUE");
        Bounds.test(2, "Returns the previous number of bits",
            "reset(5) = 4; reset(1) = 5; reset(1) = 1; reset(3) = 1; reset(6) = BAD_VALUE; reset(2) = 3; reset(4) = 2",
            "count(0) = 4");
        Bounds.test(2, "BAD_VALUE", Setups.RICH, "reset(<1..5>) = BAD_VALUE; count(0) = 4; count(4) = 7");
    }

    private static void promise3() {
        Bounds.test(3, "Connects two places",
            "connect(0, 0, 5, 3) = 1; other(0, 0) = 53; other(5, 3) = 0; other(0, 1) = NONE; other(5, 2) = NONE");
        Bounds.same(3, "Connects two places", "connect(0, 0, 5, 3) = 1", "connect(5, 3, 0, 0) = 1");
        Bounds.test(3, "`box`: a box",
            "connect(<0..5>, 1, 1, 1) = NO_SUCH_PLACE; connect(0, 1, 1, 1) = 1; connect(5, 1, 1, 2) = 2");
        Bounds.test(3, "`port`: a port",
            "connect(0, <0..3>, 1, 1) = NO_SUCH_PLACE; connect(0, 0, 1, 1) = 1; connect(0, 3, 1, 2) = 2");
        Bounds.test(3, "`otherBox`: a box",
            "connect(1, 1, <0..5>, 1) = NO_SUCH_PLACE; connect(1, 1, 0, 1) = 1; connect(1, 2, 5, 1) = 2");
        Bounds.test(3, "`otherPort`: a port",
            "connect(1, 1, 0, <0..3>) = NO_SUCH_PLACE; connect(1, 1, 0, 0) = 1; connect(1, 2, 0, 3) = 2");
        Bounds.test(3, "Returns the number of links then", Setups.ALL_LINKS,
            "count(1) = 12; connect(0, 0, 5, 3) = NOT_POSSIBLE; connect(2, 2, 2, 2) = NOT_POSSIBLE; count(1) = 12",
            "disconnect(0, 0) = 11; connect(5, 1, 0, 0) = 12; connect(5, 1, 0, 0) = NOT_POSSIBLE");
        Bounds.test(3, "NO_SUCH_PLACE",
            "connect(6, 0, 0, 0) = NO_SUCH_PLACE; connect(0, 4, 0, 0) = NO_SUCH_PLACE; connect(0, 0, -1, 0) = NO_SUCH_PLACE",
            "connect(0, 0, 0, -1) = NO_SUCH_PLACE; connect(6, 4, -1, -1) = NO_SUCH_PLACE; count(1) = 0");
        Bounds.test(3, "NOT_POSSIBLE",
            "connect(5, 3, 5, 3) = NOT_POSSIBLE; connect(5, 3, 5, 2) = 1; connect(5, 3, 5, 2) = NOT_POSSIBLE",
            "connect(5, 3, 5, 3) = NOT_POSSIBLE; connect(0, 0, 5, 3) = NOT_POSSIBLE; connect(5, 2, 0, 0) = NOT_POSSIBLE",
            "disconnect(5, 2) = 0; connect(0, 0, 5, 3) = 1");
    }

    private static void promise4() {
        Bounds.same(4, "Removes the link of a place", "connect(0, 0, 5, 3) = 1; disconnect(5, 3) = 0", "");
        Bounds.same(4, "Removes the link of a place",
            "connect(0, 0, 5, 3) = 1; connect(5, 2, 0, 1) = 2; disconnect(0, 1) = 1", "connect(0, 0, 5, 3) = 1");
        Bounds.test(4, "`box`: a box", "connect(0, 1, 5, 1) = 1; disconnect(<0..5>, 1) = NO_SUCH_PLACE",
            "disconnect(0, 1) = 0; connect(0, 1, 5, 1) = 1; disconnect(5, 1) = 0");
        Bounds.test(4, "`port`: a port", "connect(0, 0, 0, 3) = 1; disconnect(0, <0..3>) = NO_SUCH_PLACE",
            "disconnect(0, 3) = 0; connect(0, 0, 0, 3) = 1; disconnect(0, 0) = 0");
        Bounds.test(4, "Returns the number of links then", Setups.ALL_LINKS,
            "disconnect(0, 0) = 11; disconnect(0, 1) = 10; disconnect(0, 2) = 9; disconnect(0, 3) = 8",
            "disconnect(2, 0) = 7; disconnect(2, 1) = 6; disconnect(2, 2) = 5; disconnect(2, 3) = 4",
            "disconnect(4, 0) = 3; disconnect(4, 1) = 2; disconnect(4, 2) = 1; disconnect(4, 3) = 0; count(1) = 0");
        Bounds.test(4, "NO_SUCH_PLACE", "disconnect(6, 0) = NO_SUCH_PLACE; disconnect(0, 4) = NO_SUCH_PLACE",
            "disconnect(-1, -1) = NO_SUCH_PLACE", Setups.ALL_LINKS, "disconnect(6, 0) = NO_SUCH_PLACE",
            "disconnect(5, 4) = NO_SUCH_PLACE; count(1) = 12");
        Bounds.test(4, "NONE if the place has no link", "disconnect(0, 0) = NONE; disconnect(5, 3) = NONE",
            "connect(0, 0, 5, 3) = 1; disconnect(0, 1) = NONE; disconnect(5, 2) = NONE; disconnect(0, 0) = 0",
            "disconnect(0, 0) = NONE; disconnect(5, 3) = NONE; count(1) = 0");
    }

    private static void promise5() {
        Bounds.test(5, "`box`: a box", "connect(0, 1, 5, 1) = 1; other(0, 1) = 51; other(5, 1) = 1",
            "other(<0..5>, 1) = NO_SUCH_PLACE");
        Bounds.test(5, "`port`: a port", "connect(3, 0, 3, 3) = 1; other(3, 0) = 33; other(3, 3) = 30",
            "other(3, <0..3>) = NO_SUCH_PLACE");
        Bounds.test(5, "Returns 10 * (box) + (port) of the other end of the link", Setups.ALL_LINKS,
            "other(0, 0) = 51; other(5, 1) = 0; other(5, 3) = 43; other(4, 3) = 53; other(0, 3) = 13; other(1, 0) = 1");
        Bounds.test(5, "NO_SUCH_PLACE", Setups.ALL_LINKS,
            "other(6, 0) = NO_SUCH_PLACE; other(5, 4) = NO_SUCH_PLACE; other(-1, 0) = NO_SUCH_PLACE",
            "other(0, -1) = NO_SUCH_PLACE; other(MAX, MIN) = NO_SUCH_PLACE");
        Bounds.test(5, "NONE if the place has no link", "other(0, 0) = NONE; other(5, 3) = NONE",
            "connect(0, 0, 5, 3) = 1; other(0, 1) = NONE; other(5, 2) = NONE; disconnect(5, 3) = 0",
            "other(0, 0) = NONE; other(5, 3) = NONE");
    }
}
