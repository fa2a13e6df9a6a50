/** Promises 6 to 15: rules, edits, undo, rule, count, shadowed. */
public final class RulesTest {
    private RulesTest() {
    }

    public static void main(String[] args) {
        promise6();
        promise7();
        promise8();
        promise9();
        promise10();
        promise11();
        promise12();
        promise13();
        promise14();
        promise15();
        Script.end();
    }

    private static String sixRules(int box) {
        StringBuilder calls = new StringBuilder();
        for (int i = 0; i < 6; i++) {
            calls.append("insertDrop(" + box + ", " + i + ", " + (i + 1) + ", 0, 0) = " + (i + 1) + ";");
        }
        return calls.toString();
    }

    private static void promise6() {
        Script.run("6: the place in the list",
            "insertDrop(2, 0, 1, 0, 0) = 1; insertDrop(2, 0, 2, 0, 0) = 2; insertDrop(2, 1, 3, 0, 0) = 3",
            "insertDrop(2, 3, 4, 0, 0) = 4; rule(2, 0, 0) = 2; rule(2, 1, 0) = 3; rule(2, 2, 0) = 1",
            "rule(2, 3, 0) = 4; rule(2, 4, 0) = NO_SUCH_RULE; count(2) = 4; count(4) = 4");
        Script.run("6: it drops, and is on",
            "insertDrop(0, 0, 1, 8, 8) = 1; rule(0, 0, 6) = 1; rule(0, 0, 3) = 0",
            "arrivals(0, 1) = 8; arrivals(0, 2) = 8; hits(0, 0) = 8; traceEnd(8) = 1; traceEnd(7) = 2");
        Script.run("6: only at its ports",
            "insertDrop(0, 0, 14, 0, 0) = 1; hits(0, 0) = 0; inject(0, 3, 0, 0) = 16; hits(0, 0) = 16");
        Script.run("6: wrong values",
            "insertDrop(6, 9, 0, 99, 99) = NO_SUCH_PLACE; insertDrop(-1, 0, 1, 0, 0) = NO_SUCH_PLACE",
            "insertDrop(0, 1, 1, 0, 0) = BAD_VALUE; insertDrop(0, -1, 1, 0, 0) = BAD_VALUE",
            "insertDrop(0, 0, 0, 0, 0) = BAD_VALUE; insertDrop(0, 0, 16, 0, 0) = BAD_VALUE",
            "insertDrop(0, 0, -1, 0, 0) = BAD_VALUE; insertDrop(0, 0, 1, 16, 0) = BAD_VALUE",
            "insertDrop(0, 0, 1, -1, 0) = BAD_VALUE; insertDrop(0, 0, 1, 0, 16) = BAD_VALUE",
            "insertDrop(0, 0, 1, 0, -1) = BAD_VALUE; count(2) = 0; count(4) = 0; undo() = NONE");
        Script.run("6: full, and what comes before it",
            sixRules(4), "insertDrop(4, 0, 1, 0, 0) = FULL; insertDrop(4, 6, 1, 0, 0) = FULL",
            "insertDrop(4, 7, 1, 0, 0) = BAD_VALUE; insertDrop(4, 0, 0, 0, 0) = BAD_VALUE",
            "insertDrop(4, 0, 1, 16, 0) = BAD_VALUE; count(2) = 6; count(4) = 6; rule(4, 0, 0) = 1",
            "insertDrop(5, 0, 1, 0, 0) = 1; rule(4, 5, 0) = 6");
        Script.run("6: the range of cubes follows b",
            "reset(1) = 4; insertDrop(0, 0, 1, 1, 1) = 1; insertDrop(0, 0, 1, 2, 0) = BAD_VALUE",
            "insertDrop(0, 0, 1, 0, 2) = BAD_VALUE; reset(5) = 1; insertDrop(0, 0, 1, 31, 31) = 1",
            "hits(0, 0) = 1; insertDrop(0, 0, 1, 32, 0) = BAD_VALUE");
    }

    private static void promise7() {
        Script.run("7: it forwards without rewriting",
            "insertForward(0, 0, 1, 0, 0, 15) = 1; delivered(0, 0) = 65535; delivered(0, 3) = 65535",
            "rule(0, 0, 3) = 15; rule(0, 0, 4) = 0; rule(0, 0, 5) = 0; rule(0, 0, 6) = 1",
            "arrivals(0, 1) = 0; arrivals(0, 2) = 0; count(4) = 1");
        Script.run("7: it may go out where it came in",
            "insertForward(0, 0, 1, 0, 0, 1) = 1; delivered(0, 0) = 65535; traceEnd(3) = 0");
        Script.run("7: the first rule that matches handles a packet",
            "insertForward(0, 0, 1, 8, 8, 2) = 1; insertForward(0, 1, 1, 0, 0, 4) = 2",
            "delivered(0, 1) = 65280; delivered(0, 2) = 255; insertForward(0, 0, 1, 12, 12, 8) = 3",
            "delivered(0, 1) = 3840; delivered(0, 3) = 61440; delivered(0, 2) = 255");
        Script.run("7: bits of value that are not in care do not matter",
            "insertForward(0, 0, 1, 1, 15, 2) = 1; delivered(0, 1) = 43690; rule(0, 0, 2) = 1");
        Script.run("7: wrong values",
            "insertForward(6, 9, 0, 99, 99, 0) = NO_SUCH_PLACE",
            "insertForward(-1, 0, 1, 0, 0, 1) = NO_SUCH_PLACE",
            "insertForward(0, 1, 1, 0, 0, 1) = BAD_VALUE; insertForward(0, -1, 1, 0, 0, 1) = BAD_VALUE",
            "insertForward(0, 0, 0, 0, 0, 1) = BAD_VALUE; insertForward(0, 0, 16, 0, 0, 1) = BAD_VALUE",
            "insertForward(0, 0, 1, 16, 0, 1) = BAD_VALUE; insertForward(0, 0, 1, 0, 16, 1) = BAD_VALUE",
            "insertForward(0, 0, 1, -1, 0, 1) = BAD_VALUE; insertForward(0, 0, 1, 0, -1, 1) = BAD_VALUE",
            "insertForward(0, 0, 1, 0, 0, 0) = BAD_VALUE; insertForward(0, 0, 1, 0, 0, 16) = BAD_VALUE",
            "insertForward(0, 0, 1, 0, 0, -1) = BAD_VALUE; count(2) = 0; count(4) = 0");
        Script.run("7: full, and what comes before it",
            sixRules(0), "insertForward(0, 6, 1, 0, 0, 1) = FULL; insertForward(0, 7, 1, 0, 0, 1) = BAD_VALUE",
            "insertForward(0, 0, 1, 0, 0, 0) = BAD_VALUE; insertForward(0, 0, 1, 0, 0, 16) = BAD_VALUE",
            "count(2) = 6; count(4) = 6; rule(0, 5, 3) = 0");
    }

    private static void promise8() {
        Script.run("8: the rewriting of what is delivered",
            "insertForward(0, 0, 1, 8, 8, 2) = 1; setRewriting(0, 0, 9, 1) = 1; delivered(0, 1) = 170",
            "rule(0, 0, 4) = 9; rule(0, 0, 5) = 1; setRewriting(0, 0, 0, 0) = 1; delivered(0, 1) = 65280",
            "count(4) = 3; undo() = 2; rule(0, 0, 4) = 9; undo() = 1; rule(0, 0, 4) = 0");
        Script.run("8: what goes over a link is rewritten too",
            "connect(0, 1, 3, 2) = 1; insertForward(0, 0, 1, 0, 0, 2) = 1; setRewriting(0, 0, 7, 5) = 1",
            "arriving(3, 2) = 8224; trace(15, 1) = 3213");
        Script.run("8: whether it changes what the rule does",
            "insertForward(0, 0, 1, 15, 15, 2) = 1; setRewriting(0, 0, 0, 15) = 0; rule(0, 0, 5) = 0",
            "setRewriting(0, 0, 3, 1) = 1; setRewriting(0, 0, 3, 13) = 0; rule(0, 0, 5) = 1",
            "setRewriting(0, 0, 1, 1) = 1; setRewriting(0, 0, 1, 0) = 1; setRewriting(0, 0, 1, 14) = 0",
            "count(4) = 7");
        Script.run("8: also where its cube has no such header",
            "insertForward(0, 0, 1, 1, 1, 2) = 1; setRewriting(0, 0, 1, 1) = 1; setRewriting(0, 0, 1, 1) = 0");
        Script.run("8: an edit even if nothing changes",
            "insertForward(0, 0, 1, 0, 0, 1) = 1; setRewriting(0, 0, 0, 3) = 0; count(4) = 2; undo() = 1",
            "count(2) = 1");
        Script.run("8: errors in their order",
            "insertDrop(0, 0, 1, 0, 0) = 1; setRewriting(6, 9, 16, 16) = NO_SUCH_PLACE",
            "setRewriting(-1, 0, 0, 0) = NO_SUCH_PLACE; setRewriting(0, 1, 16, 16) = NO_SUCH_RULE",
            "setRewriting(0, -1, 0, 0) = NO_SUCH_RULE; setRewriting(0, 0, 16, 0) = BAD_VALUE",
            "setRewriting(0, 0, 0, 16) = BAD_VALUE; setRewriting(0, 0, -1, 0) = BAD_VALUE",
            "setRewriting(0, 0, 0, -1) = BAD_VALUE; setRewriting(0, 0, 1, 1) = NOT_POSSIBLE",
            "setRewriting(0, 0, 0, 0) = NOT_POSSIBLE; count(4) = 1; rule(0, 0, 4) = 0");
    }

    private static void promise9() {
        Script.run("9: those behind it move up",
            sixRules(1), "removeRule(1, 2) = 5; rule(1, 1, 0) = 2; rule(1, 2, 0) = 4; rule(1, 4, 0) = 6",
            "rule(1, 5, 0) = NO_SUCH_RULE; removeRule(1, 4) = 4; removeRule(1, 0) = 3; rule(1, 0, 0) = 2",
            "count(2) = 3; count(4) = 9; insertDrop(1, 3, 9, 0, 0) = 4; rule(1, 3, 0) = 9");
        Script.run("9: it handles nothing any more",
            "insertDrop(0, 0, 1, 0, 0) = 1; arrivals(0, 1) = 16; removeRule(0, 0) = 0; arrivals(0, 1) = 0",
            "arrivals(0, 2) = 16; undo() = 1; arrivals(0, 1) = 16; rule(0, 0, 0) = 1");
        Script.run("9: errors",
            "removeRule(0, 0) = NO_SUCH_RULE; insertDrop(0, 0, 1, 0, 0) = 1; removeRule(0, 1) = NO_SUCH_RULE",
            "removeRule(0, -1) = NO_SUCH_RULE; removeRule(6, -1) = NO_SUCH_PLACE",
            "removeRule(-1, 0) = NO_SUCH_PLACE; count(2) = 1; count(4) = 1");
    }

    private static void promise10() {
        Script.run("10: forwards and backwards",
            sixRules(3), "moveRule(3, 1, 4) = 1; rule(3, 0, 0) = 1; rule(3, 1, 0) = 3; rule(3, 2, 0) = 4",
            "rule(3, 3, 0) = 5; rule(3, 4, 0) = 2; rule(3, 5, 0) = 6; moveRule(3, 5, 0) = 1",
            "rule(3, 0, 0) = 6; rule(3, 1, 0) = 1; rule(3, 2, 0) = 3; rule(3, 5, 0) = 2",
            "moveRule(3, 0, 5) = 1; rule(3, 0, 0) = 1; rule(3, 5, 0) = 6; count(2) = 6");
        Script.run("10: with all that it has",
            "insertForward(0, 0, 1, 3, 2, 4) = 1; setRewriting(0, 0, 5, 4) = 1; switchRule(0, 0, false) = 1",
            "insertDrop(0, 1, 2, 0, 0) = 2; moveRule(0, 0, 1) = 1; rule(0, 1, 0) = 1; rule(0, 1, 1) = 3",
            "rule(0, 1, 2) = 2; rule(0, 1, 3) = 4; rule(0, 1, 4) = 5; rule(0, 1, 5) = 4; rule(0, 1, 6) = 0",
            "rule(0, 0, 0) = 2; rule(0, 0, 6) = 1");
        Script.run("10: to the same place, an edit still",
            "insertDrop(0, 0, 1, 0, 0) = 1; moveRule(0, 0, 0) = 0; count(4) = 2; undo() = 1; count(2) = 1");
        Script.run("10: errors",
            "moveRule(0, 0, 0) = NO_SUCH_RULE; insertDrop(0, 0, 1, 0, 0) = 1; moveRule(0, 0, 1) = NO_SUCH_RULE",
            "moveRule(0, 1, 0) = NO_SUCH_RULE; moveRule(0, 0, -1) = NO_SUCH_RULE",
            "moveRule(0, -1, 0) = NO_SUCH_RULE; moveRule(6, 0, 0) = NO_SUCH_PLACE",
            "moveRule(-1, 5, 5) = NO_SUCH_PLACE; moveRule(1, 0, 0) = NO_SUCH_RULE; count(4) = 1");
    }

    private static void promise11() {
        Script.run("11: off and on",
            "insertDrop(0, 0, 1, 0, 0) = 1; insertForward(0, 1, 1, 0, 0, 2) = 2; switchRule(0, 0, true) = 0",
            "hits(0, 0) = 16; switchRule(0, 0, false) = 1; rule(0, 0, 6) = 0; hits(0, 0) = 0; hits(0, 1) = 16",
            "delivered(0, 1) = 65535; switchRule(0, 0, false) = 0; switchRule(0, 0, true) = 1",
            "delivered(0, 1) = 0; rule(0, 0, 0) = 1; count(4) = 6; undo() = 5; rule(0, 0, 6) = 0");
        Script.run("11: errors",
            "switchRule(6, 0, true) = NO_SUCH_PLACE; switchRule(-1, 0, true) = NO_SUCH_PLACE",
            "switchRule(0, 0, false) = NO_SUCH_RULE; switchRule(0, -1, false) = NO_SUCH_RULE",
            "insertDrop(0, 0, 1, 0, 0) = 1; switchRule(0, 1, false) = NO_SUCH_RULE; count(4) = 1");
    }

    private static void promise12() {
        Script.run("12: each kind of edit",
            "insertForward(0, 0, 1, 0, 0, 2) = 1; insertDrop(0, 0, 2, 0, 0) = 2; setRewriting(0, 1, 3, 1) = 1",
            "switchRule(0, 0, false) = 1; moveRule(0, 0, 1) = 1; text(3:1***!); readRule(0) = 3",
            "removeRule(0, 0) = 2; count(4) = 7",
            "undo() = 6; count(2) = 3; rule(0, 0, 4) = 3; rule(0, 1, 6) = 0; rule(0, 2, 0) = 8",
            "undo() = 5; count(2) = 2; rule(0, 0, 3) = 2; undo() = 4; rule(0, 0, 0) = 2; rule(0, 0, 6) = 0",
            "undo() = 3; rule(0, 0, 6) = 1; rule(0, 1, 4) = 3; undo() = 2; rule(0, 1, 4) = 0",
            "undo() = 1; count(2) = 1; rule(0, 0, 0) = 1; undo() = 0; count(2) = 0; undo() = NONE; undo() = NONE",
            "clearText() = 7");
        Script.run("12: twelve are kept",
            sixRules(0), sixRules(1), "count(4) = 12; insertDrop(2, 0, 1, 0, 0) = 1; count(4) = 12",
            "insertDrop(2, 0, 1, 0, 0) = 2; count(4) = 12; undo() = 11; undo() = 10; undo() = 9; undo() = 8",
            "undo() = 7; undo() = 6; undo() = 5; undo() = 4; undo() = 3; undo() = 2; undo() = 1; undo() = 0",
            "undo() = NONE; count(2) = 2; rule(0, 0, 0) = 1; rule(0, 1, 0) = 2; rule(0, 2, 0) = NO_SUCH_RULE",
            "rule(1, 0, 0) = NO_SUCH_RULE; count(4) = 0; insertDrop(0, 0, 5, 0, 0) = 3; undo() = 0");
        Script.run("12: an undone edit is gone",
            "insertDrop(0, 0, 1, 0, 0) = 1; insertDrop(0, 0, 2, 0, 0) = 2; undo() = 1",
            "insertDrop(3, 0, 4, 0, 0) = 1; undo() = 1; rule(0, 0, 0) = 1; undo() = 0; count(2) = 0");
        Script.run("12: rules alone",
            "insertForward(0, 0, 1, 0, 0, 2) = 1; connect(0, 1, 1, 0) = 1; inject(0, 0, 8, 0) = 8",
            "addPolicy(false, 0, 0, 0, 1) = 0; setPolicyCube(0, 8, 8) = 8; type('x') = 1; count(4) = 1",
            "undo() = 0; count(1) = 1; count(3) = 1; arriving(0, 0) = 255; clearText() = 1",
            "insertForward(0, 0, 1, 0, 0, 4) = 1; counterexamples(0) = 0; disconnect(0, 1) = 0; undo() = 0",
            "other(0, 1) = NONE");
    }

    private static void promise13() {
        Script.run("13: the properties of a forwarding rule",
            "insertForward(5, 0, 9, 10, 13, 6) = 1; setRewriting(5, 0, 12, 7) = 1; rule(5, 0, 0) = 9",
            "rule(5, 0, 1) = 10; rule(5, 0, 2) = 8; rule(5, 0, 3) = 6; rule(5, 0, 4) = 12",
            "rule(5, 0, 5) = 4; rule(5, 0, 6) = 1; switchRule(5, 0, false) = 1; rule(5, 0, 6) = 0");
        Script.run("13: the properties of a dropping rule",
            "insertDrop(5, 0, 6, 5, 15) = 1; rule(5, 0, 0) = 6; rule(5, 0, 1) = 5; rule(5, 0, 2) = 5",
            "rule(5, 0, 3) = 0; rule(5, 0, 4) = 0; rule(5, 0, 5) = 0; rule(5, 0, 6) = 1");
        Script.run("13: errors in their order",
            "insertDrop(5, 0, 6, 5, 15) = 1; rule(6, 9, 9) = NO_SUCH_PLACE; rule(-1, 0, 0) = NO_SUCH_PLACE",
            "rule(5, 1, 9) = NO_SUCH_RULE; rule(5, -1, 0) = NO_SUCH_RULE; rule(5, 0, 7) = BAD_VALUE",
            "rule(5, 0, -1) = BAD_VALUE; rule(5, 0, 2147483647) = BAD_VALUE");
    }

    private static void promise14() {
        Script.run("14: the numbers",
            "reset(3) = 4; connect(0, 0, 1, 0) = 1; connect(0, 1, 1, 1) = 2; insertDrop(0, 0, 1, 0, 0) = 1",
            "insertDrop(5, 0, 1, 0, 0) = 1; insertDrop(5, 1, 1, 0, 0) = 2; moveRule(5, 0, 0) = 0",
            "addPolicy(true, 0, 0, 0, 0) = 0; count(0) = 3; count(1) = 2; count(2) = 3; count(3) = 1",
            "count(4) = 4; undo() = 3; count(4) = 3");
        Script.run("14: errors",
            "count(-1) = BAD_VALUE; count(5) = BAD_VALUE; count(-2147483648) = BAD_VALUE");
    }

    private static void promise15() {
        Script.run("15: hidden by one or by several",
            "insertForward(0, 0, 15, 8, 8, 1) = 1; insertDrop(0, 1, 15, 12, 12) = 2; shadowed(0) = 2",
            "insertDrop(0, 2, 15, 8, 0) = 3; insertDrop(0, 3, 3, 0, 0) = 4; shadowed(0) = 10",
            "switchRule(0, 0, false) = 1; shadowed(0) = 0; switchRule(0, 1, false) = 1; shadowed(0) = 0");
        Script.run("15: at each of its ports",
            "insertDrop(1, 0, 3, 0, 0) = 1; insertDrop(1, 1, 7, 0, 0) = 2; shadowed(1) = 0",
            "insertDrop(1, 0, 4, 1, 1) = 3; shadowed(1) = 0; insertDrop(1, 0, 4, 1, 0) = 4; shadowed(1) = 8",
            "insertDrop(1, 4, 1, 15, 15) = 5; shadowed(1) = 24; switchRule(1, 4, false) = 1; shadowed(1) = 8",
            "shadowed(0) = 0");
        Script.run("15: whatever comes in, and of few bits",
            "reset(1) = 4; insertDrop(2, 0, 15, 1, 0) = 1; insertDrop(2, 1, 15, 1, 1) = 2; shadowed(2) = 0",
            "insertDrop(2, 2, 15, 0, 0) = 3; shadowed(2) = 4; inject(3, 0, 0, 0) = 2; shadowed(2) = 4");
        Script.run("15: errors", "shadowed(6) = NO_SUCH_PLACE; shadowed(-1) = NO_SUCH_PLACE");
    }
}
