/** Calls at which errors apply, one or several at once. They are made after Setups.RICH. */
final class ErrorOrder {
    /** Each kind of error of each method; there are too many of them for one object. */
    static final String[] REFUSED = {
        "reset(<1..5>) = BAD_VALUE; connect(<0..5>, 0, 1, 2) = NO_SUCH_PLACE;"
            + "connect(0, <0..3>, 1, 2) = NO_SUCH_PLACE; connect(0, 0, <0..5>, 2) = NO_SUCH_PLACE;"
            + "connect(0, 0, 1, <0..3>) = NO_SUCH_PLACE; connect(0, 1, 1, 2) = NOT_POSSIBLE;"
            + "connect(1, 2, 0, 1) = NOT_POSSIBLE; connect(0, 0, 0, 0) = NOT_POSSIBLE;"
            + "disconnect(<0..5>, 1) = NO_SUCH_PLACE; disconnect(0, <0..3>) = NO_SUCH_PLACE;"
            + "disconnect(0, 0) = NONE; other(<0..5>, 1) = NO_SUCH_PLACE; other(0, <0..3>) = NO_SUCH_PLACE;"
            + "other(0, 0) = NONE; count(<0..4>) = BAD_VALUE; shadowed(<0..5>) = NO_SUCH_PLACE;"
            + "inject(<0..5>, 0, 0, 0) = NO_SUCH_PLACE; inject(0, <0..3>, 0, 0) = NO_SUCH_PLACE;"
            + "inject(0, 0, <0..15>, 0) = BAD_VALUE; inject(0, 0, 0, <0..15>) = BAD_VALUE;"
            + "arriving(<0..5>, 0) = NO_VALUE; arriving(0, <0..3>) = NO_VALUE; delivered(<0..5>, 0) = NO_VALUE;"
            + "delivered(0, <0..3>) = NO_VALUE",
        "insertDrop(<0..5>, 0, 15, 0, 0) = NO_SUCH_PLACE; insertDrop(0, <0..2>, 15, 0, 0) = BAD_VALUE;"
            + "insertDrop(0, 0, <1..15>, 0, 0) = BAD_VALUE; insertDrop(0, 0, 15, <0..15>, 0) = BAD_VALUE;"
            + "insertDrop(0, 0, 15, 0, <0..15>) = BAD_VALUE;"
            + "insertForward(<0..5>, 0, 15, 0, 0, 15) = NO_SUCH_PLACE;"
            + "insertForward(0, <0..2>, 15, 0, 0, 15) = BAD_VALUE;"
            + "insertForward(0, 0, <1..15>, 0, 0, 15) = BAD_VALUE;"
            + "insertForward(0, 0, 15, <0..15>, 0, 15) = BAD_VALUE;"
            + "insertForward(0, 0, 15, 0, <0..15>, 15) = BAD_VALUE;"
            + "insertForward(0, 0, 15, 0, 0, <1..15>) = BAD_VALUE; setRewriting(<0..5>, 0, 3, 3) = NO_SUCH_PLACE;"
            + "setRewriting(0, <0..1>, 3, 3) = NO_SUCH_RULE; setRewriting(0, 0, <0..15>, 3) = BAD_VALUE;"
            + "setRewriting(0, 0, 3, <0..15>) = BAD_VALUE; setRewriting(0, 1, 3, 3) = NOT_POSSIBLE;"
            + "removeRule(<0..5>, 0) = NO_SUCH_PLACE; removeRule(0, <0..1>) = NO_SUCH_RULE;"
            + "moveRule(<0..5>, 0, 1) = NO_SUCH_PLACE; moveRule(0, <0..1>, 1) = NO_SUCH_RULE;"
            + "moveRule(0, 0, <0..1>) = NO_SUCH_RULE; switchRule(<0..5>, 0, false) = NO_SUCH_PLACE;"
            + "switchRule(0, <0..1>, false) = NO_SUCH_RULE; rule(<0..5>, 0, 0) = NO_SUCH_PLACE;"
            + "rule(0, <0..1>, 0) = NO_SUCH_RULE; rule(0, 0, <0..6>) = BAD_VALUE",
        "arrivals(<0..5>, 0) = NO_SUCH_PLACE; arrivals(0, <0..2>) = BAD_VALUE;"
            + "hits(<0..5>, 0) = NO_SUCH_PLACE; hits(0, <0..1>) = NO_SUCH_RULE;"
            + "cube(<0..5>, 0, 0, 0) = NO_SUCH_PLACE; cube(0, <0..3>, 0, 0) = NO_SUCH_PLACE;"
            + "cube(0, 0, <0..>, 0) = BAD_VALUE; cube(0, 0, 0, <0..1>) = BAD_VALUE; cube(0, 0, 1, 0) = NONE;"
            + "origin(<0..5>, 0, 0) = NO_SUCH_PLACE; origin(0, <0..3>, 0) = NO_SUCH_PLACE;"
            + "origin(0, 0, <0..15>) = BAD_VALUE; origin(0, 0, 4) = NONE; distance(<0..3>, 1, 0) = BAD_VALUE;"
            + "distance(8, <0..5>, 0) = NO_SUCH_PLACE; distance(8, 1, <0..3>) = NO_SUCH_PLACE;"
            + "distance(0, 1, 0) = NONE; trace(<0..3>, 0) = BAD_VALUE; trace(8, <0..>) = BAD_VALUE;"
            + "trace(0, 1) = NONE; traceEnd(<0..3>) = BAD_VALUE; cutSize(<0..5>, 0) = NO_SUCH_PLACE;"
            + "cutSize(0, <0..3>) = NO_SUCH_PLACE; cutRule(<0..5>, 0, 0) = NO_SUCH_PLACE;"
            + "cutRule(0, <0..3>, 0) = NO_SUCH_PLACE; cutRule(1, 2, <0..>) = BAD_VALUE; cutRule(1, 2, 3) = NONE",
        "addPolicy(true, <0..5>, 0, 0, 0) = NO_SUCH_PLACE; addPolicy(true, 0, <0..3>, 0, 0) = NO_SUCH_PLACE;"
            + "addPolicy(true, 0, 0, <0..5>, 0) = NO_SUCH_PLACE; addPolicy(true, 0, 0, 0, <0..3>) = NO_SUCH_PLACE;"
            + "setPolicyCube(<0..1>, 15, 0) = BAD_VALUE; setPolicyCube(0, <0..15>, 0) = BAD_VALUE;"
            + "setPolicyCube(0, 15, <0..15>) = BAD_VALUE; counterexamples(<0..1>) = NO_VALUE;"
            + "readRule(<0..5>) = NO_SUCH_PLACE; ruleText(<0..5>, 0, 0) = NO_SUCH_PLACE;"
            + "ruleText(0, <0..1>, 0) = NO_SUCH_RULE; ruleText(0, 0, <0..>) = BAD_VALUE;"
            + "ruleText(0, 0, 99) = NONE"
    };

    private ErrorOrder() {
    }

    /** For each method with more than one error, calls at which two or more apply. */
    static void byHand(String sentence) {
        Bounds.test(3, sentence, Setups.RICH, "connect(6, 0, 6, 0) = NO_SUCH_PLACE; connect(0, 4, 0, 4) = NO_SUCH_PLACE",
            "connect(0, 1, 6, 0) = NO_SUCH_PLACE; connect(0, 1, 1, -1) = NO_SUCH_PLACE",
            "connect(-1, 0, 0, 1) = NO_SUCH_PLACE; connect(MIN, MAX, MIN, MAX) = NO_SUCH_PLACE");
        Bounds.test(6, sentence, Setups.RICH, "insertDrop(6, -1, 0, 16, 16) = NO_SUCH_PLACE",
            "insertDrop(6, 0, 0, 0, 0) = NO_SUCH_PLACE", Setups.sixRules(4), "insertDrop(4, 7, 1, 0, 0) = BAD_VALUE",
            "insertDrop(4, -1, 1, 0, 0) = BAD_VALUE; insertDrop(4, 0, 0, 0, 0) = BAD_VALUE",
            "insertDrop(4, 0, 16, 0, 0) = BAD_VALUE; insertDrop(4, 0, 1, 16, 0) = BAD_VALUE",
            "insertDrop(4, 0, 1, 0, 16) = BAD_VALUE; insertDrop(4, 6, 1, 0, 0) = FULL; insertDrop(6, 7, 1, 0, 0) = -1");
        Bounds.test(7, sentence, Setups.RICH, "insertForward(6, -1, 0, 16, 16, 0) = NO_SUCH_PLACE",
            "insertForward(-1, 0, 1, 0, 0, 0) = NO_SUCH_PLACE", Setups.sixRules(4),
            "insertForward(4, 7, 1, 0, 0, 1) = BAD_VALUE; insertForward(4, 0, 0, 0, 0, 1) = BAD_VALUE",
            "insertForward(4, 0, 1, -1, 0, 1) = BAD_VALUE; insertForward(4, 0, 1, 0, -1, 1) = BAD_VALUE",
            "insertForward(4, 0, 1, 0, 0, 0) = BAD_VALUE; insertForward(4, 0, 1, 0, 0, 16) = BAD_VALUE",
            "insertForward(4, 6, 1, 0, 0, 1) = FULL");
        Bounds.test(8, sentence, Setups.RICH, "setRewriting(6, 9, 16, 16) = NO_SUCH_PLACE",
            "setRewriting(6, 0, 0, 0) = NO_SUCH_PLACE; setRewriting(0, 2, 16, 0) = NO_SUCH_RULE",
            "setRewriting(0, -1, 0, -1) = NO_SUCH_RULE; setRewriting(0, 1, 16, 0) = BAD_VALUE",
            "setRewriting(0, 1, 0, -1) = BAD_VALUE; setRewriting(0, 1, 0, 0) = NOT_POSSIBLE");
        Bounds.test(9, sentence, Setups.RICH, "removeRule(6, 0) = NO_SUCH_PLACE; removeRule(6, 9) = NO_SUCH_PLACE",
            "removeRule(-1, -1) = NO_SUCH_PLACE; removeRule(5, 0) = NO_SUCH_RULE");
        Bounds.test(10, sentence, Setups.RICH, "moveRule(6, -1, -1) = NO_SUCH_PLACE; moveRule(-1, 0, 9) = NO_SUCH_PLACE",
            "moveRule(6, 9, 9) = NO_SUCH_PLACE; moveRule(0, 2, 2) = NO_SUCH_RULE; moveRule(0, -1, -1) = NO_SUCH_RULE");
        Bounds.test(11, sentence, Setups.RICH, "switchRule(6, -1, false) = NO_SUCH_PLACE",
            "switchRule(-1, 9, true) = NO_SUCH_PLACE; switchRule(5, 0, true) = NO_SUCH_RULE");
        Bounds.test(13, sentence, Setups.RICH, "rule(6, -1, -1) = NO_SUCH_PLACE; rule(-1, 0, 7) = NO_SUCH_PLACE",
            "rule(6, 0, 0) = NO_SUCH_PLACE; rule(0, 2, 7) = NO_SUCH_RULE; rule(0, -1, -1) = NO_SUCH_RULE");
        Bounds.test(16, sentence, Setups.RICH, "inject(6, 0, 16, 0) = NO_SUCH_PLACE; inject(0, 4, 0, 16) = NO_SUCH_PLACE",
            "inject(-1, -1, -1, -1) = NO_SUCH_PLACE");
        Bounds.test(19, sentence, Setups.RICH, "arrivals(6, 3) = NO_SUCH_PLACE; arrivals(-1, -1) = NO_SUCH_PLACE");
        Bounds.test(20, sentence, Setups.RICH, "hits(6, 2) = NO_SUCH_PLACE; hits(-1, -1) = NO_SUCH_PLACE");
        Bounds.test(21, sentence, Setups.RICH, "cube(6, 0, -1, 0) = NO_SUCH_PLACE; cube(0, 4, 0, 2) = NO_SUCH_PLACE",
            "cube(-1, -1, -1, -1) = NO_SUCH_PLACE; cube(6, 0, 99, 0) = NO_SUCH_PLACE; cube(5, 0, 99, 2) = BAD_VALUE",
            "cube(5, 0, -1, 0) = BAD_VALUE; cube(5, 0, 0, 0) = NONE");
        Bounds.test(22, sentence, Setups.RICH, "origin(6, 0, 16) = NO_SUCH_PLACE; origin(0, 4, -1) = NO_SUCH_PLACE",
            "origin(5, 0, 16) = BAD_VALUE; origin(5, 0, 0) = NONE");
        Bounds.test(23, sentence, Setups.RICH, "distance(16, 6, 4) = BAD_VALUE; distance(4, 6, 0) = BAD_VALUE",
            "distance(-1, 0, 4) = BAD_VALUE; distance(0, 6, 0) = NO_SUCH_PLACE; distance(0, 5, 4) = NO_SUCH_PLACE",
            "distance(4, 5, 0) = BAD_VALUE; distance(0, 5, 0) = NONE");
        Bounds.test(24, sentence, Setups.RICH, "trace(4, 99) = BAD_VALUE; trace(4, -1) = BAD_VALUE",
            "trace(16, 0) = BAD_VALUE; trace(0, 99) = NONE");
        Bounds.test(28, sentence, Setups.RICH, "cutRule(6, 0, -1) = NO_SUCH_PLACE; cutRule(0, 4, -1) = NO_SUCH_PLACE",
            "cutRule(6, 0, 9) = NO_SUCH_PLACE; cutRule(5, 0, -1) = BAD_VALUE; cutRule(5, 0, 0) = NONE");
        Bounds.test(29, sentence, Setups.eightPolicies(), "addPolicy(true, 6, 0, 0, 0) = NO_SUCH_PLACE",
            "addPolicy(true, 0, 4, 0, 0) = NO_SUCH_PLACE; addPolicy(false, 0, 0, -1, 0) = NO_SUCH_PLACE",
            "addPolicy(false, 0, 0, 0, -1) = NO_SUCH_PLACE; addPolicy(false, 0, 0, 0, 0) = FULL");
        Bounds.test(30, sentence, "setPolicyCube(0, 16, -1) = BAD_VALUE; addPolicy(true, 0, 0, 0, 0) = 0",
            "setPolicyCube(1, 16, 0) = BAD_VALUE; setPolicyCube(-1, 0, -1) = BAD_VALUE");
        Bounds.test(36, sentence, Setups.sixRules(3), "readRule(6) = NO_SUCH_PLACE; readRule(3) = -100; readRule(0) = -100",
            "text(0:****); readRule(-1) = NO_SUCH_PLACE; readRule(3) = -106; type('!') = 7; readRule(6) = NO_SUCH_PLACE",
            "readRule(3) = FULL; readRule(4) = 1");
        Bounds.test(37, sentence, Setups.RICH, "ruleText(6, -1, -1) = NO_SUCH_PLACE; ruleText(-1, 0, 99) = NO_SUCH_PLACE",
            "ruleText(0, 2, -1) = NO_SUCH_RULE; ruleText(0, 2, 99) = NO_SUCH_RULE; ruleText(0, 0, -1) = BAD_VALUE",
            "ruleText(0, 0, 99) = NONE");
    }
}
