/** The sentences of promises 6 to 12: the edits of rules, and undo. */
final class RulesBounds {
    private static final String BOX = "`box`: a box";
    private static final String RULE = "`rule`: a rule of this box";
    private static final String EDIT = "This is an edit";
    /** Twelve edits, so that one more drops the first of them. */
    private static final String TWELVE = Setups.sixForwards(0) + Setups.sixForwards(1);
    /** The first of them alone, where it can't be undone any more. */
    private static final String FIRST_OF_TWELVE =
        "insertForward(0, 0, 1, 0, 0, 2) = 1; 12 * moveRule(0, 0, 0) = 0; 12 * undo() = ?;";

    private RulesBounds() {
    }

    static void run() {
        promise6();
        promise7();
        insertion(6, "insertDrop", "");
        insertion(7, "insertForward", ", 2");
        promise8();
        promise8Values();
        promise9();
        promise10();
        promise11();
        promise12();
    }

    private static void promise6() {
        Bounds.test(6, "Inserts a rule that drops packets",
            "insertDrop(0, 0, 1, 15, 15) = 1; arrivals(0, 1) = 1; arrivals(0, 2) = 15; rule(0, 0, 3) = 0",
            "insertDrop(0, 0, 15, 0, 0) = 2; arrivals(0, 1) = 16; arrivals(0, 2) = 0; traceEnd(0) = 1");
        Bounds.test(6, "It is switched on", "insertDrop(0, 0, 1, 0, 0) = 1; rule(0, 0, 6) = 1",
            "switchRule(0, 0, false) = 1; insertDrop(0, 0, 1, 0, 0) = 2; rule(0, 0, 6) = 1; rule(0, 1, 6) = 0",
            "switchRule(0, 0, true) = 0");
        Bounds.test(6, "`place`: the number that it gets, 0 to the number of rules of the box", places("insertDrop", ""));
        Bounds.test(6, "those behind it get numbers that are greater by 1", shifts("insertDrop", ""));
    }

    private static void promise7() {
        Bounds.test(7, "Inserts a rule that forwards packets without rewriting",
            "insertForward(0, 0, 1, 0, 0, 15) = 1; rule(0, 0, 4) = 0; rule(0, 0, 5) = 0; delivered(0, 0) = 65535",
            "delivered(0, 3) = 65535; setRewriting(0, 0, 15, 15) = 1; insertForward(0, 0, 1, 0, 0, 1) = 2",
            "rule(0, 0, 4) = 0; rule(0, 0, 5) = 0; rule(0, 1, 4) = 15; delivered(0, 0) = 65535; delivered(0, 1) = 0");
        Bounds.test(7, "It is switched on", "insertForward(0, 0, 1, 0, 0, 1) = 1; rule(0, 0, 6) = 1",
            "switchRule(0, 0, false) = 1; insertForward(0, 0, 1, 0, 0, 1) = 2; rule(0, 0, 6) = 1; rule(0, 1, 6) = 0");
        Bounds.test(7, "`place`: as for insertDrop()", places("insertForward", ", 2"));
        Bounds.test(7, "`place`: as for insertDrop()", shifts("insertForward", ", 2"));
        Bounds.test(7, "`outputs`: its output ports, 1 to 15",
            "insertForward(0, 0, 1, 0, 0, <1..15>) = BAD_VALUE; insertForward(0, 0, 1, 0, 0, 1) = 1",
            "rule(0, 0, 3) = 1; delivered(0, 0) = 65535; insertForward(0, 0, 1, 0, 0, 15) = 2; rule(0, 0, 3) = 15",
            "delivered(0, 3) = 65535; insertForward(0, 0, 1, 0, 0, <1..15>) = BAD_VALUE");
    }

    /** At every length of the list the last place that is taken, and those that are refused. */
    private static String places(String method, String outputs) {
        StringBuilder calls = new StringBuilder();
        for (int size = 0; size < 6; size++) {
            calls.append(method + "(5, <0.." + size + ">, 1, 0, 0" + outputs + ") = BAD_VALUE;");
            calls.append(method + "(5, " + size + ", " + (size + 1) + ", 0, 0" + outputs + ") = " + (size + 1) + ";");
            calls.append("rule(5, " + size + ", 0) = " + (size + 1) + ";");
        }
        calls.append(method + "(5, 0, 1, 0, 0" + outputs + ") = FULL;" + method + "(5, 6, 1, 0, 0" + outputs + ") = FULL;");
        return calls + method + "(5, <0..6>, 1, 0, 0" + outputs + ") = BAD_VALUE; rule(5, 0, 0) = 1; rule(5, 5, 0) = 6";
    }

    /** Always at place 0, so that all others move, until the list is full. */
    private static String shifts(String method, String outputs) {
        StringBuilder calls = new StringBuilder();
        for (int size = 0; size < 6; size++) {
            calls.append(method + "(0, 0, " + (size + 1) + ", 0, 0" + outputs + ") = " + (size + 1) + ";");
            for (int rule = 0; rule <= size; rule++) {
                calls.append("rule(0, " + rule + ", 0) = " + (size + 1 - rule) + ";");
            }
        }
        return calls + "removeRule(0, 5) = 5; " + method + "(0, 2, 9, 0, 0" + outputs + ") = 6; rule(0, 1, 0) = 5;"
            + "rule(0, 2, 0) = 9; rule(0, 3, 0) = 4; rule(0, 5, 0) = 2; rule(1, 0, 0) = NO_SUCH_RULE";
    }

    private static void insertion(int promise, String method, String outputs) {
        String zeros = ", 0, 0" + outputs + ")";
        edit(promise, method + "(2, 0, 1" + zeros + " = 1");
        Bounds.test(promise, BOX, method + "(<0..5>, 0, 1" + zeros + " = NO_SUCH_PLACE; " + method + "(0, 0, 1" + zeros
            + " = 1; " + method + "(5, 0, 1" + zeros + " = 1; " + method + "(<0..5>, 0, 1" + zeros + " = NO_SUCH_PLACE");
        Bounds.test(promise, "`ports`: its ports, 1 to 15",
            method + "(0, 0, <1..15>" + zeros + " = BAD_VALUE; " + method + "(0, 0, 1" + zeros + " = 1; hits(0, 0) = 16",
            "rule(0, 0, 0) = 1; " + method + "(0, 0, 15" + zeros + " = 2; rule(0, 0, 0) = 15; inject(0, 3, 0, 0) = 16",
            "hits(0, 0) = 16; " + method + "(0, 0, <1..15>" + zeros + " = BAD_VALUE");
        for (int bits = 1; bits <= 5; bits++) {
            int last = (1 << bits) - 1;
            String reset = "reset(" + bits + ") = 4; ";
            Bounds.test(promise, "`care`: of its cube",
                reset + method + "(0, 0, 1, <0.." + last + ">, 0" + outputs + ") = BAD_VALUE",
                method + "(0, 0, 1, " + last + ", 0" + outputs + ") = 1; rule(0, 0, 1) = " + last + "; hits(0, 0) = 1",
                method + "(0, 0, 1" + zeros + " = 2; rule(0, 0, 1) = 0; hits(0, 0) = " + (last + 1));
            Bounds.test(promise, "`value`: of its cube",
                reset + method + "(0, 0, 1, 0, <0.." + last + ">" + outputs + ") = BAD_VALUE",
                method + "(0, 0, 1, " + last + ", " + last + outputs + ") = 1; rule(0, 0, 2) = " + last,
                "hits(0, 0) = 1; " + method + "(0, 0, 1, 0, " + last + outputs + ") = 2; rule(0, 0, 2) = 0",
                "hits(0, 0) = " + (last + 1));
        }
        Bounds.test(promise, "Returns the number of rules of the box then", places(method, outputs),
            method + "(4, 0, 1" + zeros + " = 1; count(2) = 7");
        Bounds.test(promise, "NO_SUCH_PLACE", Setups.RICH, method + "(-1, 0, 1" + zeros + " = NO_SUCH_PLACE",
            method + "(6, 0, 1" + zeros + " = NO_SUCH_PLACE; " + method + "(6, 9, 0" + zeros + " = NO_SUCH_PLACE");
        Bounds.test(promise, "BAD_VALUE", Setups.RICH, method + "(0, 3, 1" + zeros + " = BAD_VALUE",
            method + "(0, -1, 1" + zeros + " = BAD_VALUE; " + method + "(0, 0, 0" + zeros + " = BAD_VALUE",
            method + "(0, 0, 16" + zeros + " = BAD_VALUE; " + method + "(0, 0, 1, 16, 0" + outputs + ") = BAD_VALUE",
            method + "(0, 0, 1, 0, 16" + outputs + ") = BAD_VALUE; " + method + "(0, 9, 99, 99, 99" + outputs
            + ") = BAD_VALUE; count(4) = 7");
        Bounds.test(promise, "FULL if the box has 6 rules", Setups.sixRules(0), method + "(0, 0, 1" + zeros + " = FULL",
            method + "(0, 6, 15" + zeros + " = FULL; " + method + "(0, 7, 1" + zeros + " = BAD_VALUE; count(4) = 6",
            method + "(1, 0, 1" + zeros + " = 1; removeRule(0, 5) = 5; " + method + "(0, 5, 1" + zeros + " = 6",
            method + "(0, 5, 1" + zeros + " = FULL; undo() = 8; " + method + "(0, 5, 1" + zeros + " = 6");
    }

    /** Alone an edit counts as one and can be undone; behind twelve others it drops the oldest one. */
    private static void edit(int promise, String call) {
        Bounds.test(promise, EDIT, call, "count(4) = 1; undo() = 0; undo() = NONE");
        Bounds.same(promise, EDIT, call + "; undo() = 0", "");
        Bounds.test(promise, EDIT, TWELVE, call, "count(4) = 12; undo() = 11; count(2) = 12");
        Bounds.same(promise, EDIT, TWELVE + call + "; 12 * undo() = ?", FIRST_OF_TWELVE);
    }

    private static void promise8() {
        String one = "insertForward(0, 0, 1, 15, 15, 2) = 1;";
        Bounds.test(8, "Sets the rewriting of a rule that forwards packets", one,
            "setRewriting(0, 0, 15, 0) = 1; delivered(0, 1) = 1; setRewriting(0, 0, 0, 0) = 1; delivered(0, 1) = 32768",
            "setRewriting(0, 0, 15, 15) = 1; delivered(0, 1) = 32768; setRewriting(0, 0, 1, 0) = 1; delivered(0, 1) = 16384");
        Bounds.test(8, EDIT, one, "setRewriting(0, 0, 15, 0) = 1; count(4) = 2; setRewriting(0, 0, 15, 0) = 0",
            "count(4) = 3; undo() = 2; rule(0, 0, 4) = 15; undo() = 1; rule(0, 0, 4) = 0");
        Bounds.same(8, EDIT, one + "setRewriting(0, 0, 15, 0) = 1; undo() = 1", one);
        Bounds.test(8, EDIT, TWELVE, "setRewriting(0, 0, 1, 1) = 1; count(4) = 12; undo() = 11; rule(0, 0, 4) = 0",
            "11 * undo() = ?; undo() = NONE; count(2) = 1");
        Bounds.test(8, BOX, one, "insertForward(5, 0, 1, 0, 0, 2) = 1; setRewriting(<0..5>, 0, 1, 1) = NO_SUCH_PLACE",
            "setRewriting(0, 0, 1, 1) = 1; setRewriting(5, 0, 1, 1) = 1");
        Bounds.test(8, RULE, "setRewriting(0, 0, 1, 1) = NO_SUCH_RULE", one, "setRewriting(0, <0..0>, 1, 1) = NO_SUCH_RULE",
            Setups.sixForwards(3), "setRewriting(3, <0..5>, 1, 1) = NO_SUCH_RULE; setRewriting(3, 0, 1, 1) = 1",
            "setRewriting(3, 5, 1, 0) = 1; rule(3, 0, 5) = 1; rule(3, 5, 4) = 1; rule(3, 1, 4) = 0; removeRule(3, 0) = 5",
            "setRewriting(3, 5, 1, 1) = NO_SUCH_RULE");
    }

    private static void promise8Values() {
        for (int bits = 1; bits <= 5; bits++) {
            int last = (1 << bits) - 1;
            String one = "reset(" + bits + ") = 4; insertForward(0, 0, 1, 0, 0, 2) = 1;";
            Bounds.test(8, "`change`: 0 to 2^b - 1", one, "setRewriting(0, 0, <0.." + last + ">, 0) = BAD_VALUE",
                "setRewriting(0, 0, 0, 0) = 0; setRewriting(0, 0, " + last + ", 0) = 1; rule(0, 0, 4) = " + last,
                "delivered(0, 1) = 1; setRewriting(0, 0, <0.." + last + ">, 0) = BAD_VALUE");
            Bounds.test(8, "`to`: 0 to 2^b - 1", one, "setRewriting(0, 0, " + last + ", <0.." + last + ">) = BAD_VALUE",
                "setRewriting(0, 0, 0, <0.." + last + ">) = BAD_VALUE; setRewriting(0, 0, 0, " + last + ") = 0",
                "setRewriting(0, 0, " + last + ", " + last + ") = 1; rule(0, 0, 5) = " + last,
                "delivered(0, 1) = " + (1L << last));
        }
        String changes = "Returns 1 if this changes what the rule does to some header (whether its cube contains it or"
            + " not), otherwise 0";
        Bounds.test(8, changes, "insertForward(0, 0, 1, 15, 15, 2) = 1; setRewriting(0, 0, 0, 0) = 0",
            "setRewriting(0, 0, 0, 15) = 0; setRewriting(0, 0, 8, 8) = 1; setRewriting(0, 0, 8, 15) = 0",
            "setRewriting(0, 0, 8, 7) = 1; setRewriting(0, 0, 8, 0) = 0; setRewriting(0, 0, 15, 0) = 1",
            "setRewriting(0, 0, 15, 1) = 1; setRewriting(0, 0, 14, 1) = 1; setRewriting(0, 0, 14, 0) = 0");
        Bounds.test(8, changes, "insertForward(0, 0, 1, 0, 0, 2) = 1; switchRule(0, 0, false) = 1",
            "setRewriting(0, 0, 1, 1) = 1; setRewriting(0, 0, 1, 1) = 0; undo() = 3; setRewriting(0, 0, 0, 1) = 1");
        Bounds.test(8, "NO_SUCH_PLACE", Setups.RICH, "setRewriting(-1, 0, 1, 1) = NO_SUCH_PLACE",
            "setRewriting(6, 0, 1, 1) = NO_SUCH_PLACE; setRewriting(6, 0, 16, 16) = NO_SUCH_PLACE");
        Bounds.test(8, "NO_SUCH_RULE", Setups.RICH, "setRewriting(0, 2, 1, 1) = NO_SUCH_RULE",
            "setRewriting(0, -1, 1, 1) = NO_SUCH_RULE; setRewriting(5, 0, 16, 1) = NO_SUCH_RULE");
        Bounds.test(8, "BAD_VALUE", Setups.RICH, "setRewriting(0, 0, 16, 1) = BAD_VALUE",
            "setRewriting(0, 0, 1, 16) = BAD_VALUE; setRewriting(0, 1, -1, 1) = BAD_VALUE",
            "setRewriting(0, 0, -1, -1) = BAD_VALUE");
        Bounds.test(8, "NOT_POSSIBLE if the rule drops packets", Setups.RICH, "setRewriting(0, 1, 1, 1) = NOT_POSSIBLE",
            "setRewriting(0, 1, 0, 0) = NOT_POSSIBLE; setRewriting(0, 1, 15, 15) = NOT_POSSIBLE; count(4) = 7",
            "setRewriting(1, 1, 15, 15) = 1");
    }

    private static void promise9() {
        Bounds.test(9, "Removes a rule", Setups.sixRules(0), "removeRule(0, 0) = 5; rule(0, 0, 0) = 2; rule(0, 4, 0) = 6",
            "removeRule(0, 4) = 4; rule(0, 3, 0) = 5; rule(0, 4, 0) = NO_SUCH_RULE; removeRule(0, 1) = 3",
            "rule(0, 0, 0) = 2; rule(0, 1, 0) = 4; rule(0, 2, 0) = 5");
        Bounds.test(9, EDIT, "insertDrop(0, 0, 1, 0, 0) = 1; removeRule(0, 0) = 0; count(4) = 2; undo() = 1",
            "rule(0, 0, 0) = 1; undo() = 0; removeRule(0, 0) = NO_SUCH_RULE; count(4) = 0");
        Bounds.same(9, EDIT, TWELVE + "removeRule(0, 2) = 5; undo() = 11",
            FIRST_OF_TWELVE + TWELVE.substring(TWELVE.indexOf(';') + 1));
        Bounds.test(9, BOX, Setups.sixRules(0), Setups.sixRules(5), "removeRule(<0..5>, 0) = NO_SUCH_PLACE",
            "removeRule(0, 0) = 5; removeRule(5, 0) = 5; removeRule(<0..5>, 0) = NO_SUCH_PLACE");
        Bounds.test(9, RULE, "removeRule(0, 0) = NO_SUCH_RULE", Setups.sixRules(0), "removeRule(0, <0..5>) = NO_SUCH_RULE",
            "removeRule(0, 5) = 5; removeRule(0, <0..4>) = NO_SUCH_RULE; removeRule(0, 0) = 4; removeRule(0, 3) = 3",
            "removeRule(0, 2) = 2; removeRule(0, 1) = 1; removeRule(0, <0..0>) = NO_SUCH_RULE; removeRule(0, 0) = 0",
            "removeRule(0, 0) = NO_SUCH_RULE");
        Bounds.test(9, "Returns the number of rules of the box then", Setups.sixRules(2), Setups.sixRules(3),
            "removeRule(2, 0) = 5; removeRule(2, 0) = 4; removeRule(2, 0) = 3; removeRule(2, 0) = 2",
            "removeRule(2, 0) = 1; removeRule(2, 0) = 0; removeRule(3, 0) = 5; count(2) = 5");
        Bounds.test(9, "NO_SUCH_PLACE", Setups.RICH, "removeRule(-1, 0) = NO_SUCH_PLACE; removeRule(6, 0) = NO_SUCH_PLACE",
            "removeRule(6, 9) = NO_SUCH_PLACE");
        Bounds.test(9, "NO_SUCH_RULE", Setups.RICH, "removeRule(0, 2) = NO_SUCH_RULE; removeRule(0, -1) = NO_SUCH_RULE",
            "removeRule(5, 0) = NO_SUCH_RULE; removeRule(5, MAX) = NO_SUCH_RULE; count(2) = 5; count(4) = 7");
    }

    private static void promise10() {
        Bounds.test(10, "Moves a rule to another place in the list of its box", Setups.sixRules(0),
            "moveRule(0, 0, 5) = 1; rule(0, 5, 0) = 1; rule(0, 0, 0) = 2; rule(0, 4, 0) = 6; moveRule(0, 5, 0) = 1",
            "rule(0, 0, 0) = 1; rule(0, 1, 0) = 2; rule(0, 5, 0) = 6; moveRule(0, 2, 3) = 1; rule(0, 2, 0) = 4",
            "rule(0, 3, 0) = 3; rule(0, 4, 0) = 5; moveRule(0, 4, 1) = 1; rule(0, 1, 0) = 5; rule(0, 2, 0) = 2",
            "rule(0, 4, 0) = 3; rule(0, 5, 0) = 6; count(2) = 6");
        Bounds.test(10, EDIT, Setups.sixRules(0), "moveRule(0, 0, 5) = 1; count(4) = 7; moveRule(0, 3, 3) = 0; count(4) = 8",
            "undo() = 7; rule(0, 5, 0) = 1; undo() = 6; rule(0, 0, 0) = 1; rule(0, 5, 0) = 6");
        Bounds.same(10, EDIT, Setups.sixRules(0) + "moveRule(0, 4, 2) = 1; undo() = 6", Setups.sixRules(0));
        Bounds.same(10, EDIT, Setups.sixRules(0) + "moveRule(0, 2, 2) = 0; undo() = 6", Setups.sixRules(0));
        Bounds.test(10, EDIT, TWELVE, "moveRule(1, 0, 0) = 0; count(4) = 12; undo() = 11; 11 * undo() = ?; count(2) = 1");
        Bounds.test(10, BOX, Setups.sixRules(0), Setups.sixRules(5), "moveRule(<0..5>, 0, 1) = NO_SUCH_PLACE",
            "moveRule(0, 0, 1) = 1; moveRule(5, 0, 1) = 1; rule(5, 0, 0) = 2; rule(5, 1, 0) = 1");
        Bounds.test(10, "`from`: a rule of this box", "moveRule(0, 0, 0) = NO_SUCH_RULE", Setups.sixRules(0),
            "moveRule(0, <0..5>, 0) = NO_SUCH_RULE; moveRule(0, 0, 1) = 1; moveRule(0, 5, 1) = 1; rule(0, 1, 0) = 6",
            "removeRule(0, 0) = 5; moveRule(0, <0..4>, 0) = NO_SUCH_RULE; moveRule(0, 4, 0) = 1");
        Bounds.test(10, "`to`: the number that it has then", "moveRule(0, 0, 0) = NO_SUCH_RULE", Setups.sixRules(0),
            "moveRule(0, 0, <0..5>) = NO_SUCH_RULE; moveRule(0, 1, 0) = 1; rule(0, 0, 0) = 2; moveRule(0, 1, 5) = 1",
            "rule(0, 5, 0) = 1; removeRule(0, 0) = 5; moveRule(0, 0, <0..4>) = NO_SUCH_RULE; moveRule(0, 0, 4) = 1");
        Bounds.test(10, "Returns 1 if both are different, otherwise 0", Setups.sixRules(0),
            "moveRule(0, 0, 0) = 0; moveRule(0, 5, 5) = 0; moveRule(0, 0, 1) = 1; moveRule(0, 5, 4) = 1",
            "reset(4) = 4; insertDrop(0, 0, 1, 0, 0) = 1; moveRule(0, 0, 0) = 0; insertDrop(0, 0, 1, 0, 0) = 2",
            "moveRule(0, 0, 1) = 1; moveRule(0, 1, 0) = 1; moveRule(0, 1, 1) = 0");
        Bounds.test(10, "NO_SUCH_PLACE", Setups.RICH, "moveRule(-1, 0, 0) = NO_SUCH_PLACE; moveRule(6, 0, 1) = NO_SUCH_PLACE",
            "moveRule(6, 9, 9) = NO_SUCH_PLACE");
        Bounds.test(10, "NO_SUCH_RULE (also for to)", Setups.RICH, "moveRule(0, 0, 2) = NO_SUCH_RULE",
            "moveRule(0, 2, 0) = NO_SUCH_RULE; moveRule(0, 0, -1) = NO_SUCH_RULE; moveRule(0, -1, 0) = NO_SUCH_RULE",
            "moveRule(0, 2, 2) = NO_SUCH_RULE; moveRule(5, 0, 0) = NO_SUCH_RULE; count(4) = 7");
    }

    private static void promise11() {
        String one = "insertDrop(0, 0, 1, 0, 0) = 1;";
        Bounds.test(11, "Switches a rule on or off", one, "switchRule(0, 0, false) = 1; rule(0, 0, 6) = 0; hits(0, 0) = 0",
            "arrivals(0, 2) = 16; switchRule(0, 0, true) = 1; rule(0, 0, 6) = 1; hits(0, 0) = 16; arrivals(0, 2) = 0");
        Bounds.test(11, EDIT, one, "switchRule(0, 0, true) = 0; count(4) = 2; switchRule(0, 0, false) = 1; count(4) = 3",
            "undo() = 2; rule(0, 0, 6) = 1; undo() = 1; rule(0, 0, 6) = 1; undo() = 0; count(2) = 0");
        Bounds.same(11, EDIT, one + "switchRule(0, 0, false) = 1; undo() = 1", one);
        Bounds.same(11, EDIT, one + "switchRule(0, 0, true) = 0; undo() = 1", one);
        Bounds.test(11, EDIT, TWELVE, "switchRule(1, 5, true) = 0; count(4) = 12; 12 * undo() = ?; count(2) = 1");
        Bounds.test(11, BOX, Setups.sixRules(0), Setups.sixRules(5), "switchRule(<0..5>, 0, false) = NO_SUCH_PLACE",
            "switchRule(<0..5>, 0, true) = NO_SUCH_PLACE; switchRule(0, 0, false) = 1; switchRule(5, 0, false) = 1");
        Bounds.test(11, RULE, "switchRule(0, 0, true) = NO_SUCH_RULE", Setups.sixRules(0),
            "switchRule(0, <0..5>, false) = NO_SUCH_RULE; switchRule(0, 0, false) = 1; switchRule(0, 5, false) = 1",
            "rule(0, 0, 6) = 0; rule(0, 5, 6) = 0; rule(0, 1, 6) = 1; removeRule(0, 0) = 5",
            "switchRule(0, <0..4>, true) = NO_SUCH_RULE; switchRule(0, 4, true) = 1");
        Bounds.test(11, "`on`: true for on", one, "switchRule(0, 0, true) = 0; rule(0, 0, 6) = 1",
            "switchRule(0, 0, false) = 1; rule(0, 0, 6) = 0");
        Bounds.test(11, "Returns 1 if this changes it, otherwise 0", one,
            "switchRule(0, 0, true) = 0; switchRule(0, 0, false) = 1; switchRule(0, 0, false) = 0",
            "switchRule(0, 0, true) = 1; switchRule(0, 0, true) = 0; undo() = 5; undo() = 4; switchRule(0, 0, true) = 1");
        Bounds.test(11, "NO_SUCH_PLACE", Setups.RICH, "switchRule(-1, 0, false) = NO_SUCH_PLACE",
            "switchRule(6, 0, false) = NO_SUCH_PLACE; switchRule(6, 9, true) = NO_SUCH_PLACE");
        Bounds.test(11, "NO_SUCH_RULE", Setups.RICH, "switchRule(0, 2, false) = NO_SUCH_RULE",
            "switchRule(0, -1, false) = NO_SUCH_RULE; switchRule(5, 0, true) = NO_SUCH_RULE; count(4) = 7");
    }

    private static void promise12() {
        String latest = "Undoes the latest edit that is remembered";
        Bounds.test(12, latest, "undo() = NONE; insertDrop(0, 0, 1, 0, 0) = 1; insertDrop(5, 0, 2, 0, 0) = 1; undo() = 1",
            "rule(5, 0, 0) = NO_SUCH_RULE; rule(0, 0, 0) = 1; insertDrop(0, 0, 3, 0, 0) = 2; undo() = 1; rule(0, 0, 0) = 1",
            "undo() = 0; count(2) = 0; undo() = NONE");
        Bounds.test(12, latest, TWELVE, TWELVE.replaceAll("\\(0,", "(2,").replaceAll("\\(1,", "(3,"), "count(4) = 12",
            "12 * undo() = ?; count(4) = 0; count(2) = 12; rule(0, 5, 0) = 6; rule(1, 5, 0) = 6; undo() = NONE");
        Bounds.same(12, latest, TWELVE + "12 * undo() = ?", "");
        Bounds.test(12, "Returns how many more can be undone", TWELVE, "undo() = 11; undo() = 10; undo() = 9; undo() = 8",
            "undo() = 7; undo() = 6; undo() = 5; undo() = 4; undo() = 3; undo() = 2; undo() = 1; undo() = 0; undo() = NONE",
            "insertDrop(0, 0, 1, 0, 0) = 1; undo() = 0", TWELVE, "removeRule(1, 0) = 5; removeRule(1, 0) = 4; undo() = 11");
        Bounds.test(12, "NONE if there is none (nothing changes then)", "undo() = NONE; undo() = NONE", Setups.RICH,
            "undo() = 6; undo() = 5; undo() = 4; undo() = 3; undo() = 2; undo() = 1; undo() = 0; undo() = NONE",
            "undo() = NONE; count(4) = 0; insertDrop(0, 0, 1, 0, 0) = 1; count(4) = 1; reset(4) = 4; undo() = NONE");
    }
}
