/** Calls that several tests begin with. */
final class Setups {
    /** Twelve links: every place has one, and every box can be reached from every other one. */
    static final String ALL_LINKS =
        "connect(0, 1, 1, 0) = 1; connect(1, 1, 2, 0) = 2; connect(2, 1, 3, 0) = 3; connect(3, 1, 4, 0) = 4;"
        + "connect(4, 1, 5, 0) = 5; connect(5, 1, 0, 0) = 6; connect(0, 2, 3, 2) = 7; connect(1, 2, 4, 2) = 8;"
        + "connect(2, 2, 5, 2) = 9; connect(0, 3, 1, 3) = 10; connect(2, 3, 3, 3) = 11; connect(4, 3, 5, 3) = 12;";

    /** Something of everything: links, rules (one off, one rewriting), policies, an injection, a text. */
    static final String RICH =
        "connect(0, 1, 1, 0) = 1; connect(1, 1, 2, 0) = 2; connect(2, 1, 0, 3) = 3;"
        + "insertForward(0, 0, 9, 8, 8, 2) = 1; setRewriting(0, 0, 1, 1) = 1; insertDrop(0, 1, 15, 12, 4) = 2;"
        + "insertForward(1, 0, 15, 0, 0, 6) = 1; insertForward(1, 1, 15, 0, 0, 8) = 2;"
        + "switchRule(1, 1, false) = 1; insertForward(2, 0, 15, 2, 2, 6) = 1;"
        + "addPolicy(true, 0, 0, 1, 2) = 0; addPolicy(false, 2, 0, 2, 2) = 1; setPolicyCube(1, 8, 8) = 8;"
        + "inject(0, 0, 4, 0) = 8; text(02:1*0*>13=**01);";

    private Setups() {
    }

    /** Fills a box: rule i drops the packets of the ports i + 1 (as a set). */
    static String sixRules(int box) {
        StringBuilder calls = new StringBuilder();
        for (int i = 0; i < 6; i++) {
            calls.append("insertDrop(" + box + ", " + i + ", " + (i + 1) + ", 0, 0) = " + (i + 1) + ";");
        }
        return calls.toString();
    }

    /** The same with rules that forward packets to port 1. */
    static String sixForwards(int box) {
        StringBuilder calls = new StringBuilder();
        for (int i = 0; i < 6; i++) {
            calls.append("insertForward(" + box + ", " + i + ", " + (i + 1) + ", 0, 0, 2) = " + (i + 1) + ";");
        }
        return calls.toString();
    }

    /** Eight policies of the kind always, from port 0 of box 0 to its port 1. */
    static String eightPolicies() {
        StringBuilder calls = new StringBuilder();
        for (int i = 0; i < 8; i++) {
            calls.append("addPolicy(true, 0, 0, 0, 1) = " + i + ";");
        }
        return calls.toString();
    }

    /** Types a character until the text has so many. */
    static String typed(int from, int to, char character) {
        StringBuilder calls = new StringBuilder();
        for (int length = from + 1; length <= to; length++) {
            calls.append("type('" + character + "') = " + length + ";");
        }
        return calls.toString();
    }
}
