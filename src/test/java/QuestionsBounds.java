/** The sentences of promises 13 to 15: rule, count, shadowed. */
final class QuestionsBounds {
    private static final String BOX = "`box`: a box";

    private QuestionsBounds() {
    }

    static void run() {
        promise13();
        promise14();
        promise15();
    }

    private static void promise13() {
        Bounds.test(13, "Returns a property of a rule", Setups.sixRules(0), "rule(0, 0, 0) = 1; rule(0, 5, 0) = 6",
            "count(4) = 6; undo() = 5; rule(0, 5, 0) = NO_SUCH_RULE");
        Bounds.test(13, BOX, "insertDrop(0, 0, 1, 0, 0) = 1; insertDrop(5, 0, 15, 0, 0) = 1; rule(0, 0, 0) = 1",
            "rule(5, 0, 0) = 15; rule(<0..5>, 0, 0) = NO_SUCH_PLACE");
        Bounds.test(13, "`rule`: a rule of this box", "rule(0, 0, 0) = NO_SUCH_RULE; insertDrop(0, 0, 9, 0, 0) = 1",
            "rule(0, 0, 0) = 9; rule(0, <0..0>, 0) = NO_SUCH_RULE; rule(1, 0, 0) = NO_SUCH_RULE", Setups.sixRules(4),
            "rule(4, 5, 0) = 6; rule(4, <0..5>, 0) = NO_SUCH_RULE; removeRule(4, 0) = 5; rule(4, 4, 0) = 6",
            "rule(4, 5, 0) = NO_SUCH_RULE");
        String what = "`what`: 0 for its ports, 1 for care and 2 for value of its cube (bits that do not matter are 0), 3 for"
            + " its output ports (0 if it drops packets), 4 for change and 5 for to of its rewriting (bits that do not"
            + " matter, and all bits if it drops packets, are 0), 6 for whether it is on (1, otherwise 0)";
        Bounds.test(13, what, "reset(5) = 4; insertForward(0, 0, 15, 31, 31, 15) = 1; setRewriting(0, 0, 31, 31) = 1",
            "rule(0, 0, 0) = 15; rule(0, 0, 1) = 31; rule(0, 0, 2) = 31; rule(0, 0, 3) = 15; rule(0, 0, 4) = 31",
            "rule(0, 0, 5) = 31; rule(0, 0, 6) = 1; rule(0, 0, <0..6>) = BAD_VALUE; switchRule(0, 0, false) = 1",
            "rule(0, 0, 6) = 0; rule(0, 0, 3) = 15; setRewriting(0, 0, 0, 31) = 1; rule(0, 0, 4) = 0; rule(0, 0, 5) = 0",
            "setRewriting(0, 0, 16, 31) = 1; rule(0, 0, 5) = 16; setRewriting(0, 0, 16, 15) = 1; rule(0, 0, 5) = 0");
        Bounds.test(13, what, "insertDrop(0, 0, 1, 0, 15) = 1; rule(0, 0, 0) = 1; rule(0, 0, 1) = 0; rule(0, 0, 2) = 0",
            "rule(0, 0, 3) = 0; rule(0, 0, 4) = 0; rule(0, 0, 5) = 0; rule(0, 0, 6) = 1; rule(0, 0, <0..6>) = BAD_VALUE",
            "insertDrop(0, 0, 1, 7, 15) = 2; rule(0, 0, 2) = 7; text(*:1**0>0=0**1); readRule(0) = 3; rule(0, 2, 1) = 9",
            "rule(0, 2, 2) = 8; rule(0, 2, 4) = 9; rule(0, 2, 5) = 1");
        Bounds.test(13, "Returns the property", "insertForward(0, 0, 1, 0, 0, 1) = 1; rule(0, 0, 0) = 1; rule(0, 0, 3) = 1");
        Bounds.test(13, "NO_SUCH_PLACE", Setups.RICH, "rule(-1, 0, 0) = NO_SUCH_PLACE; rule(6, 0, 0) = NO_SUCH_PLACE");
        Bounds.test(13, "NO_SUCH_RULE", Setups.RICH, "rule(0, 2, 0) = NO_SUCH_RULE; rule(0, -1, 0) = NO_SUCH_RULE",
            "rule(5, 0, 0) = NO_SUCH_RULE; rule(5, 0, 7) = NO_SUCH_RULE");
        Bounds.test(13, "BAD_VALUE", Setups.RICH, "rule(0, 0, 7) = BAD_VALUE; rule(0, 0, -1) = BAD_VALUE",
            "rule(0, 1, MAX) = BAD_VALUE; rule(0, 1, MIN) = BAD_VALUE");
    }

    private static void promise14() {
        String what = "`what`: 0 for b, 1 for the number of links, 2 for the number of rules of all boxes, 3 for the number"
            + " of policies, 4 for the number of edits that can be undone";
        Bounds.test(14, what, "count(0) = 4; count(1) = 0; count(2) = 0; count(3) = 0; count(4) = 0",
            "count(<0..4>) = BAD_VALUE");
        Bounds.test(14, what, "reset(5) = 4; count(0) = 5", Setups.ALL_LINKS, "count(1) = 12", Setups.eightPolicies(),
            "count(3) = 8", Setups.sixRules(0), Setups.sixRules(1), Setups.sixRules(2), Setups.sixRules(3),
            Setups.sixRules(4), Setups.sixRules(5), "count(2) = 36; count(4) = 12; insertDrop(5, 0, 1, 0, 0) = FULL",
            "addPolicy(true, 0, 0, 0, 0) = FULL; connect(0, 0, 1, 1) = NOT_POSSIBLE; count(2) = 36; count(3) = 8",
            "count(1) = 12; count(4) = 12; reset(1) = 5; count(0) = 1; count(1) = 0; count(2) = 0; count(3) = 0",
            "count(4) = 0");
        Bounds.test(14, "Returns the number", "insertDrop(0, 0, 1, 0, 0) = 1; count(2) = 1; count(4) = 1; undo() = 0",
            "count(2) = 0; count(4) = 0; connect(0, 0, 0, 1) = 1; count(1) = 1; disconnect(0, 1) = 0; count(1) = 0");
        Bounds.test(14, "BAD_VALUE", Setups.RICH, "count(5) = BAD_VALUE; count(-1) = BAD_VALUE; count(MAX) = BAD_VALUE",
            "count(MIN) = BAD_VALUE");
    }

    private static void promise15() {
        String never = "Returns the rules of a box that can never handle a packet, because for each of their ports and"
            + " headers an earlier rule that is on comes first";
        Bounds.test(15, never, "shadowed(0) = 0; insertDrop(0, 0, 15, 0, 0) = 1; shadowed(0) = 0",
            "insertDrop(0, 1, 15, 0, 0) = 2; shadowed(0) = 2; insertDrop(0, 2, 1, 15, 15) = 3; shadowed(0) = 6",
            "insertDrop(0, 0, 1, 15, 15) = 4; shadowed(0) = 12; insertForward(0, 4, 8, 0, 0, 1) = 5; shadowed(0) = 28",
            "insertDrop(0, 5, 15, 0, 0) = 6; shadowed(0) = 60");
        Bounds.test(15, never, "reset(1) = 4; insertDrop(5, 0, 15, 1, 0) = 1; insertDrop(5, 1, 15, 0, 0) = 2; shadowed(5) = 0",
            "insertDrop(5, 1, 7, 1, 1) = 3; shadowed(5) = 0; insertDrop(5, 2, 8, 1, 1) = 4; shadowed(5) = 8");
        Bounds.test(15, never, "reset(5) = 4; insertDrop(0, 0, 1, 16, 16) = 1; insertDrop(0, 1, 1, 24, 8) = 2",
            "insertDrop(0, 2, 1, 28, 4) = 3; insertDrop(0, 3, 1, 30, 2) = 4; insertDrop(0, 4, 1, 31, 1) = 5",
            "insertDrop(0, 5, 1, 0, 0) = 6; shadowed(0) = 0; undo() = 5; insertDrop(0, 5, 1, 31, 31) = 6",
            "shadowed(0) = 32; undo() = 5; insertDrop(0, 0, 1, 31, 0) = 6; undo() = 5; insertDrop(0, 5, 1, 31, 0) = 6",
            "shadowed(0) = 0");
        Bounds.test(15, "(Rules that are off are not returned.)", Setups.sixRules(0).replaceAll(", [1-6], 0, 0", ", 15, 0, 0"),
            "shadowed(0) = 62; switchRule(0, 5, false) = 1; shadowed(0) = 30; switchRule(0, 0, false) = 1",
            "shadowed(0) = 28; switchRule(0, 1, false) = 1; switchRule(0, 2, false) = 1; switchRule(0, 3, false) = 1",
            "shadowed(0) = 0; switchRule(0, 4, false) = 1; shadowed(0) = 0; switchRule(0, 0, true) = 1; shadowed(0) = 0");
        Bounds.test(15, BOX, "insertDrop(0, 0, 1, 0, 0) = 1; insertDrop(0, 1, 1, 0, 0) = 2; insertDrop(5, 0, 1, 0, 0) = 1",
            "insertDrop(5, 1, 1, 0, 0) = 2; shadowed(0) = 2; shadowed(5) = 2; shadowed(1) = 0",
            "shadowed(<0..5>) = NO_SUCH_PLACE");
        Bounds.test(15, "Returns the rules, as a bit set", "shadowed(3) = 0", Setups.sixRules(3), "shadowed(3) = 52",
            "insertDrop(3, 0, 15, 0, 0) = FULL; removeRule(3, 5) = 5; insertDrop(3, 0, 15, 0, 0) = 6; shadowed(3) = 62");
        Bounds.test(15, "NO_SUCH_PLACE", Setups.RICH, "shadowed(-1) = NO_SUCH_PLACE; shadowed(6) = NO_SUCH_PLACE");
    }
}
