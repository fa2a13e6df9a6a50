/** Promises 34 to 37: texts of rules. */
public final class TextsTest {
    private TextsTest() {
    }

    public static void main(String[] args) {
        promise34();
        promise35();
        promise36();
        promise36Faults();
        promise37();
        Script.end();
    }

    private static void promise34() {
        StringBuilder forty = new StringBuilder();
        for (int i = 1; i <= 40; i++) {
            forty.append("type(" + 1600 * i + ") = " + i + ";");
        }
        Script.run("34: forty characters, any of them", forty.toString(),
            "type('x') = FULL; type(0) = FULL; clearText() = 40; type(0) = 1; type(65535) = 2",
            "readRule(0) = -100; clearText() = 2");
    }

    private static void promise35() {
        Script.run("35: the length that it had",
            "clearText() = 0; type('a') = 1; type('b') = 2; clearText() = 2; clearText() = 0; type('c') = 1",
            "count(4) = 0; text(*:****!); readRule(0) = 1; clearText() = 7; readRule(0) = -100");
    }

    private static void promise36() {
        Script.run("36: a rule that forwards",
            "text(13:10*1>023=*01*); readRule(2) = 1; rule(2, 0, 0) = 10; rule(2, 0, 1) = 13",
            "rule(2, 0, 2) = 9; rule(2, 0, 3) = 13; rule(2, 0, 4) = 6; rule(2, 0, 5) = 2; rule(2, 0, 6) = 1",
            "count(4) = 1; clearText() = 16");
        Script.run("36: a rule that drops, for all ports",
            "text(*:0**1!); readRule(0) = 1; rule(0, 0, 0) = 15; rule(0, 0, 1) = 9; rule(0, 0, 2) = 1",
            "rule(0, 0, 3) = 0; rule(0, 0, 4) = 0; rule(0, 0, 6) = 1; hits(0, 0) = 4");
        Script.run("36: a drop behind a forward takes nothing over from it",
            "text(*:0**1>0123=1111); readRule(0) = 1; text(0:****!); readRule(0) = 2; rule(0, 1, 3) = 0",
            "rule(0, 1, 4) = 0; rule(0, 1, 5) = 0; rule(0, 1, 1) = 0; text(0:1***>1); readRule(0) = 3",
            "rule(0, 2, 4) = 0; rule(0, 2, 5) = 0; rule(0, 2, 3) = 2; rule(0, 2, 1) = 8");
        Script.run("36: all four ports by digits, and a rewriting that changes nothing",
            "text(0123:****>0123=****); readRule(0) = 1; rule(0, 0, 0) = 15; rule(0, 0, 3) = 15; rule(0, 0, 4) = 0");
        Script.run("36: the text stays, and the rule comes at the end",
            "insertDrop(1, 0, 1, 0, 0) = 1; text(2:****>3); readRule(1) = 2; readRule(1) = 3; rule(1, 0, 0) = 1",
            "rule(1, 1, 0) = 4; rule(1, 2, 0) = 4; readRule(4) = 1; count(4) = 4; undo() = 3; count(2) = 3");
        Script.run("36: as many characters as bits",
            "reset(1) = 4; text(0:1>1=0); readRule(0) = 1; rule(0, 0, 2) = 1; rule(0, 0, 4) = 1; rule(0, 0, 5) = 0",
            "reset(5) = 1; readRule(0) = -103; text(0:1*0*1>1=0*1*0); readRule(0) = 1; rule(0, 0, 1) = 21",
            "rule(0, 0, 2) = 17; rule(0, 0, 4) = 21; rule(0, 0, 5) = 4");
        Script.run("36: errors in their order",
            "text(0:****!); readRule(6) = NO_SUCH_PLACE; readRule(-1) = NO_SUCH_PLACE; readRule(3) = 1",
            "readRule(3) = 2; readRule(3) = 3; readRule(3) = 4; readRule(3) = 5; readRule(3) = 6; readRule(3) = FULL",
            "count(4) = 6; count(2) = 6; type('!') = 8; readRule(3) = -107; readRule(6) = NO_SUCH_PLACE",
            "readRule(4) = -107; count(2) = 6");
    }

    private static void promise36Faults() {
        fault("", 0);
        fault(":****!", 0);
        fault("4:****!", 0);
        fault(" 0:****!", 0);
        fault("!", 0);
        fault("0", 1);
        fault("*", 1);
        fault("**:****!", 1);
        fault("0*:****!", 1);
        fault("*0:****!", 1);
        fault("00:****!", 1);
        fault("10:****!", 1);
        fault("021:****!", 2);
        fault("3", 1);
        fault("33:****!", 1);
        fault("34:****!", 1);
        fault("0123", 4);
        fault("01233:****!", 4);
        fault("0123:", 5);
        fault("0 :****!", 1);
        fault("0:", 2);
        fault("0:2***!", 2);
        fault("0:*", 3);
        fault("0:***", 5);
        fault("0:***!", 5);
        fault("0:****", 6);
        fault("0:*****!", 6);
        fault("0:****=", 6);
        fault("0:****0", 6);
        fault("0:****!!", 7);
        fault("0:****!0", 7);
        fault("0:****!=****", 7);
        fault("0:****>", 7);
        fault("0:****>=****", 7);
        fault("0:****>*", 7);
        fault("0:****>4", 7);
        fault("0:****>!", 7);
        fault("0:****>00", 8);
        fault("0:****>31", 8);
        fault("0:****>0!", 8);
        fault("0:****>0*", 8);
        fault("0:****>0123=", 12);
        fault("0:****>0123 ", 11);
        fault("0:****>01233", 11);
        fault("0:****>0=", 9);
        fault("0:****>0=***", 12);
        fault("0:****>0=2***", 9);
        fault("0:****>0=***:", 12);
        fault("0:****>0=*****", 13);
        fault("0:****>0=****!", 13);
        fault("0:****>0=****=", 13);
        Script.run("36: a fault far behind", "text(0:****>0=****                          !); readRule(0) = -113",
            "clearText() = 40");
        Script.run("36: a sign whose low bits are those of one that is allowed",
            "type(304) = 1; readRule(0) = -100; clearText() = 1; text(0:****); type(289) = 7; readRule(0) = -106");
    }

    private static void fault(String text, int fault) {
        Script.run("36: fault of \"" + text + "\"",
            "text(" + text + "); readRule(5) = " + (-100 - fault),
            "count(2) = 0; count(4) = 0; clearText() = " + text.length());
    }

    private static void promise37() {
        written("insertForward(1, 0, 1, 8, 8, 8) = 1", "0:1***>3");
        written("insertForward(1, 0, 15, 5, 4, 15) = 1", "*:*1*0>0123");
        written("insertForward(1, 0, 14, 15, 6, 9) = 1; setRewriting(1, 0, 9, 1) = 1", "123:0110>03=0**1");
        written("insertForward(1, 0, 10, 0, 15, 1) = 1; setRewriting(1, 0, 0, 15) = 0", "13:****>0");
        written("insertForward(1, 0, 4, 1, 1, 2) = 1; setRewriting(1, 0, 1, 1) = 1", "2:***1>1=***1");
        written("insertDrop(1, 0, 15, 0, 0) = 1", "*:****!");
        written("insertDrop(1, 0, 7, 12, 4) = 1; switchRule(1, 0, false) = 1", "012:01**!");
        written("reset(1) = 4; insertForward(1, 0, 8, 1, 0, 4) = 1; setRewriting(1, 0, 1, 1) = 1", "3:0>2=1");
        written("reset(5) = 4; insertForward(1, 0, 7, 16, 16, 15) = 1; setRewriting(1, 0, 31, 10) = 1",
            "012:1****>0123=01010");
        written("text(0123:****>0=****); readRule(1) = 1", "*:****>0");
        Script.run("37: the rule that is asked for",
            "insertDrop(0, 0, 1, 0, 0) = 1; insertDrop(0, 1, 2, 0, 0) = 2; insertDrop(3, 0, 4, 0, 0) = 1",
            "ruleText(0, 0, 0) = 48; ruleText(0, 1, 0) = 49; ruleText(3, 0, 0) = 50; clearText() = 0; count(4) = 3");
        Script.run("37: errors in their order",
            "insertDrop(0, 0, 1, 0, 0) = 1; ruleText(6, 9, -1) = NO_SUCH_PLACE; ruleText(-1, 0, 0) = NO_SUCH_PLACE",
            "ruleText(0, 1, -1) = NO_SUCH_RULE; ruleText(0, -1, 0) = NO_SUCH_RULE; ruleText(0, 0, -1) = BAD_VALUE",
            "ruleText(0, 0, -2147483648) = BAD_VALUE; ruleText(0, 0, 2147483647) = NONE");
    }

    /** The text of rule 0 of box 1 must be this one, to its last character. */
    private static void written(String calls, String text) {
        StringBuilder asked = new StringBuilder();
        for (int i = 0; i < text.length(); i++) {
            asked.append("ruleText(1, 0, " + i + ") = " + (int) text.charAt(i) + ";");
        }
        asked.append("ruleText(1, 0, " + text.length() + ") = NONE");
        Script.run("37: " + text, calls, asked.toString());
    }
}
