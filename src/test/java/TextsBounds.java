/** The sentences about texts: those of the description, and promises 34 to 37. */
final class TextsBounds {
    private static final String BOX = "`box`: a box";

    private TextsBounds() {
    }

    static void run() {
        written();
        faults();
        promise34();
        promise35();
        promise36();
        promise37();
        promise37Errors();
    }

    /** Reads a text with b bits; the answer is 1, or -100 minus the fault. */
    private static String read(int bits, String text, int answer) {
        return "reset(" + bits + ") = ?; text(" + text + "); readRule(5) = " + answer + ";";
    }

    private static void written() {
        Bounds.test(34, "There is a text of at most 40 characters, empty at first", "readRule(0) = -100; clearText() = 0",
            Setups.typed(0, 40, '0'), "type('0') = FULL; type(0) = FULL; type(65535) = FULL; clearText() = 40; type('0') = 1");
        Bounds.test(36, "A rule is written as follows, without blanks: ports \":\" pattern action",
            read(1, "0:0!", 1), read(5, "0123:01*01>0123=01*01", 1), read(4, " 0:****!", -100), read(4, "0 :****!", -101),
            read(4, "0: ****!", -102), read(4, "0:**** !", -106), read(4, "0:****! ", -107), read(4, "0:****> 1", -107),
            read(4, "0:****>1 ", -108), read(4, ":****!", -100), read(4, "0****!", -101), read(4, "0:!", -102),
            read(4, "0:****", -106));
        Bounds.test(36, "ports is one or more digits 0 to 3 in ascending order, or \"*\" for all ports",
            read(4, "0:****!", 1), "rule(5, 0, 0) = 1;", read(4, "3:****!", 1), "rule(5, 0, 0) = 8;",
            read(4, "0123:****!", 1), "rule(5, 0, 0) = 15;", read(4, "*:****!", 1), "rule(5, 0, 0) = 15;",
            read(4, ":****!", -100), read(4, "4:****!", -100), read(4, "/:****!", -100), read(4, "34:****!", -101),
            read(4, "10:****!", -101), read(4, "00:****!", -101), read(4, "33:****!", -101), read(4, "0132:****!", -103),
            read(4, "01233:****!", -104), read(4, "**:****!", -101), read(4, "*0:****!", -101), read(4, "0*:****!", -101));
        String pattern = "pattern has b characters 0, 1 or *, for the bits b - 1 to 0 in this order";
        for (int bits = 1; bits <= 5; bits++) {
            String ones = "1".repeat(bits);
            int last = (1 << bits) - 1;
            Bounds.test(36, pattern, read(bits, "0:" + ones + "!", 1), "rule(5, 0, 1) = " + last + "; rule(5, 0, 2) = " + last,
                read(bits, "0:" + ones.substring(1) + "!", -101 - bits), read(bits, "0:" + ones + "1!", -102 - bits),
                read(bits, "0:" + "0".repeat(bits) + "!", 1), "rule(5, 0, 1) = " + last + "; rule(5, 0, 2) = 0",
                read(bits, "0:" + ones.substring(1) + "*!", 1), "rule(5, 0, 1) = " + (last - 1));
        }
        Bounds.test(36, pattern, read(5, "0:10000!", 1), "rule(5, 0, 2) = 16;", read(5, "0:00001!", 1), "rule(5, 0, 2) = 1;",
            read(4, "0:2***!", -102), read(4, "0:***2!", -105), read(4, "0:/***!", -102), read(4, "0:***x!", -105));
        Bounds.test(36, "* is a bit that does not matter", read(4, "0:****!", 1), "rule(5, 0, 1) = 0; rule(5, 0, 2) = 0;",
            read(4, "0:*1*1!", 1), "rule(5, 0, 1) = 5; inject(5, 0, 0, 0) = 16; hits(5, 0) = 4;", read(1, "0:*!", 1),
            "inject(5, 0, 0, 0) = 2; hits(5, 0) = 2");
        Bounds.test(36, "action is \"!\" for dropping, or \">\" and one or more digits 0 to 3 in ascending order for the output"
            + " ports, perhaps followed by \"=\" and a pattern for the rewriting (* is a bit that is not changed)",
            read(4, "0:****!", 1), "rule(5, 0, 3) = 0;", read(4, "0:****>0", 1), "rule(5, 0, 3) = 1;",
            read(4, "0:****>3", 1), "rule(5, 0, 3) = 8;", read(4, "0:****>0123", 1), "rule(5, 0, 3) = 15; rule(5, 0, 4) = 0;",
            read(4, "0:****>0=****", 1), "rule(5, 0, 4) = 0;", read(4, "0:****>0123=1010", 1), "rule(5, 0, 4) = 15",
            "rule(5, 0, 5) = 10;", read(4, "0:****>", -107), read(4, "0:****>*", -107), read(4, "0:****>4", -107),
            read(4, "0:****>=****", -107), read(4, "0:****>00", -108), read(4, "0:****>10", -108), read(4, "0:****>0123=", -112),
            read(4, "0:****>01234", -111), read(4, "0:****>0=***", -112), read(4, "0:****>0=*****", -113),
            read(4, "0:****!0", -107), read(4, "0:****!=****", -107), read(4, "0:****=", -106));
    }

    private static void faults() {
        String fault = "The fault of a text is the index, from 0, of the first character that is not allowed at its place, or its"
            + " length if it ends too early";
        String rule = "0123:01*01>0123=01*01";
        StringBuilder early = new StringBuilder("reset(5) = 4;");
        StringBuilder wrong = new StringBuilder("reset(5) = 4;");
        for (int length = 0; length < rule.length(); length++) {
            // The digits of the output ports may end anywhere, and the rewriting may be left away.
            boolean whole = length >= 12 && length <= 15;
            String begun = rule.substring(0, length);
            early.append("text(" + begun + "); readRule(5) = " + (whole ? length - 11 : -100 - length) + ";");
            wrong.append("text(" + begun + "x" + rule.substring(length) + "); readRule(5) = " + (-100 - length) + ";");
        }
        Bounds.test(36, fault, early.toString());
        Bounds.test(36, fault, wrong.toString());
        Bounds.test(36, fault, "readRule(0) = -100; type('x') = 1; readRule(0) = -100; clearText() = 1; type('0') = 1",
            "readRule(0) = -101; reset(5) = 4; text(" + rule + "x); readRule(0) = -121", Setups.typed(22, 40, 'x'),
            "readRule(0) = -121; text(" + "0".repeat(40) + "); readRule(0) = -101; type('0') = FULL");
    }

    private static void promise34() {
        Bounds.test(34, "Appends a character to the text", "type('0') = 1; readRule(0) = -101; type(':') = 2; readRule(0) = -102",
            "4 * type('*') = ?; readRule(0) = -106; type('!') = 7; readRule(0) = 1; type('!') = 8; readRule(0) = -107",
            "count(4) = 1");
        Bounds.test(34, "`character`: any character", "type(0) = 1; type(65535) = 2; type(32) = 3; type(127) = 4; type(128) = 5",
            "type(255) = 6; type(256) = 7; type(55296) = 8; type(57343) = 9; type(10) = 10; clearText() = 10; type(304) = 1",
            "readRule(0) = -100; clearText() = 1");
        Bounds.test(34, "Returns the length of the text then", Setups.typed(0, 40, '*'), "type('*') = FULL; clearText() = 40",
            Setups.typed(0, 2, 'a'), "reset(5) = 4; type('b') = 3");
        Bounds.test(34, "FULL if it has 40 characters", "text(0:****!);" + Setups.typed(7, 39, 'x') + "type('x') = 40",
            "type('x') = FULL; type('0') = FULL; type(65535) = FULL; readRule(0) = -107; clearText() = 40; type('x') = 1");
    }

    private static void promise35() {
        Bounds.same(35, "Empties the text", "text(*:****!); clearText() = 7", "");
        Bounds.test(35, "Empties the text", "text(*:****!); readRule(0) = 1; clearText() = 7; readRule(0) = -100; type('*') = 1",
            "readRule(0) = -101; count(4) = 1", Setups.typed(1, 40, '*'), "clearText() = 40; readRule(0) = -100");
        Bounds.test(35, "Returns the length that it had", "clearText() = 0; clearText() = 0; type('x') = 1; clearText() = 1",
            "clearText() = 0", Setups.typed(0, 40, 'x'), "type('x') = FULL; clearText() = 40; clearText() = 0");
    }

    private static void promise36() {
        Bounds.test(36, "Reads a rule from the text, which stays, and adds it at the end of the list of a box, switched on",
            "text(3:****!); readRule(0) = 1; rule(0, 0, 0) = 8; rule(0, 0, 6) = 1; switchRule(0, 0, false) = 1", "readRule(0) = 2",
            "rule(0, 0, 6) = 0; rule(0, 1, 6) = 1; insertDrop(0, 0, 1, 0, 0) = 3; readRule(0) = 4; rule(0, 3, 0) = 8",
            "readRule(5) = 1; clearText() = 7; rule(5, 0, 0) = 8");
        Bounds.test(36, "This is an edit", "text(0:****!); readRule(0) = 1; count(4) = 1; undo() = 0; count(2) = 0; clearText() = 7",
            "readRule(0) = -100; count(4) = 0; undo() = NONE");
        Bounds.same(36, "This is an edit", "text(0:****!); readRule(0) = 1; undo() = 0", "text(0:****!)");
        Bounds.test(36, "This is an edit", Setups.sixRules(0), Setups.sixRules(1), "text(0:****!); readRule(5) = 1; count(4) = 12",
            "12 * undo() = ?; undo() = NONE; count(2) = 1; rule(0, 0, 0) = 1");
        Bounds.test(36, BOX, "readRule(<0..5>) = NO_SUCH_PLACE; text(0:****!); readRule(<0..5>) = NO_SUCH_PLACE; readRule(0) = 1",
            "readRule(5) = 1; rule(0, 0, 0) = 1; rule(5, 0, 0) = 1");
        Bounds.test(36, "Returns the number of rules of the box then", "text(0:****!); readRule(0) = 1; readRule(0) = 2",
            "readRule(0) = 3; readRule(0) = 4; readRule(0) = 5; readRule(0) = 6; readRule(0) = FULL; readRule(1) = 1; count(2) = 7");
        Bounds.test(36, "NO_SUCH_PLACE", Setups.RICH, "readRule(-1) = NO_SUCH_PLACE; readRule(6) = NO_SUCH_PLACE",
            "clearText() = 15; readRule(-1) = NO_SUCH_PLACE; readRule(6) = NO_SUCH_PLACE; readRule(MIN) = NO_SUCH_PLACE");
        Bounds.test(36, "-100 minus the fault if the text has one", Setups.RICH, Setups.sixRules(5), "type('0') = 16",
            "readRule(0) = -115; readRule(5) = -115; clearText() = 16; readRule(0) = -100; readRule(5) = -100", "type('5') = 1",
            "readRule(0) = -100; reset(3) = 4; text(0:****!); readRule(0) = -105; reset(5) = 3; readRule(0) = -106");
        Bounds.test(36, "FULL if the box has 6 rules", Setups.sixRules(0), "readRule(0) = -100; text(0:****!); readRule(0) = FULL",
            "readRule(1) = 1; count(4) = 7; removeRule(0, 0) = 5; readRule(0) = 6; rule(0, 5, 0) = 1; readRule(0) = FULL",
            "undo() = 8; readRule(0) = 6; readRule(0) = FULL");
    }

    private static void promise37() {
        String text = "Returns a character of the text of a rule, as it would be read";
        // What is read is written again, to the last character; then it can be read once more.
        String[] rules = {"0:****!", "012:1111!", "*:0000!", "123:1*0*>0", "*:****>0123", "3:0101>3=1***", "013:****>012=0000"};
        for (String rule : rules) {
            Bounds.test(37, text, "text(" + rule + "); readRule(5) = 1", letters(5, 0, rule));
        }
        Bounds.test(37, text, "reset(1) = 4; text(3:1>3=0); readRule(0) = 1", letters(0, 0, "3:1>3=0"), "reset(5) = 1",
            "text(012:01*01>0123=01*01); readRule(0) = 1", letters(0, 0, "012:01*01>0123=01*01"));
        String all = "all ports are written as \"*\", and a rewriting that changes no bit is left out";
        Bounds.test(37, all, "insertForward(0, 0, 15, 0, 0, 15) = 1", letters(0, 0, "*:****>0123"), "setRewriting(0, 0, 0, 15) = 0",
            letters(0, 0, "*:****>0123"), "setRewriting(0, 0, 1, 0) = 1", letters(0, 0, "*:****>0123=***0"));
        Bounds.test(37, all, "insertDrop(0, 0, 14, 0, 0) = 1", letters(0, 0, "123:****!"), "insertDrop(0, 1, 7, 0, 0) = 2",
            letters(0, 1, "012:****!"), "text(0123:****>0=****); readRule(0) = 3", letters(0, 2, "*:****>0"));
    }

    /** Asks for every character of a rule's text, and for the one behind it. */
    private static String letters(int box, int rule, String text) {
        StringBuilder calls = new StringBuilder();
        for (int i = 0; i < text.length(); i++) {
            calls.append("ruleText(" + box + ", " + rule + ", " + i + ") = " + (int) text.charAt(i) + ";");
        }
        return calls + "ruleText(" + box + ", " + rule + ", " + text.length() + ") = NONE";
    }

    private static void promise37Errors() {
        String one = "insertDrop(0, 0, 15, 0, 0) = 1;";
        Bounds.test(37, BOX, one, "insertDrop(5, 0, 1, 0, 0) = 1; ruleText(0, 0, 0) = 42; ruleText(5, 0, 0) = 48",
            "ruleText(<0..5>, 0, 0) = NO_SUCH_PLACE");
        Bounds.test(37, "`rule`: a rule of this box", "ruleText(0, 0, 0) = NO_SUCH_RULE", one, "ruleText(0, <0..0>, 0) = NO_SUCH_RULE",
            Setups.sixRules(3), "ruleText(3, 0, 0) = 48; ruleText(3, 5, 0) = 49; ruleText(3, <0..5>, 0) = NO_SUCH_RULE",
            "removeRule(3, 0) = 5; ruleText(3, 5, 0) = NO_SUCH_RULE; ruleText(3, 4, 0) = 49");
        Bounds.test(37, "`i`: index of the character, from 0", one, "ruleText(0, 0, 0) = 42; ruleText(0, 0, 6) = 33",
            "ruleText(0, 0, 7) = NONE; ruleText(0, 0, MAX) = NONE; ruleText(0, 0, <0..>) = BAD_VALUE");
        Bounds.test(37, "Returns the character as an int", "insertForward(0, 0, 13, 15, 2, 2) = 1; setRewriting(0, 0, 2, 0) = 1",
            "ruleText(0, 0, 0) = 48; ruleText(0, 0, 1) = 50; ruleText(0, 0, 2) = 51; ruleText(0, 0, 3) = 58",
            "ruleText(0, 0, 6) = 49; ruleText(0, 0, 8) = 62; ruleText(0, 0, 10) = 61; ruleText(0, 0, 11) = 42");
        Bounds.test(37, "NO_SUCH_PLACE", Setups.RICH, "ruleText(-1, 0, 0) = NO_SUCH_PLACE; ruleText(6, 0, 0) = NO_SUCH_PLACE",
            "ruleText(6, 9, -1) = NO_SUCH_PLACE");
        Bounds.test(37, "NO_SUCH_RULE", Setups.RICH, "ruleText(0, 2, 0) = NO_SUCH_RULE; ruleText(0, -1, 0) = NO_SUCH_RULE",
            "ruleText(5, 0, -1) = NO_SUCH_RULE; ruleText(5, 0, 99) = NO_SUCH_RULE");
        Bounds.test(37, "BAD_VALUE if i is negative", Setups.RICH, "ruleText(0, 0, -1) = BAD_VALUE; ruleText(0, 1, MIN) = BAD_VALUE",
            "ruleText(0, 0, 0) = 48");
        Bounds.test(37, "NONE if the text is not so long", one, "ruleText(0, 0, 6) = 33; ruleText(0, 0, 7) = NONE",
            "ruleText(0, 0, 40) = NONE; ruleText(0, 0, MAX) = NONE; reset(1) = 4", one, "ruleText(0, 0, 3) = 33",
            "ruleText(0, 0, 4) = NONE; reset(5) = 1; insertForward(0, 0, 7, 31, 31, 15) = 1; setRewriting(0, 0, 31, 31) = 1",
            "ruleText(0, 0, 19) = 49; ruleText(0, 0, 20) = NONE; clearText() = 0");
    }
}
