/** Promises 27 and 28: cutSize and cutRule. */
public final class CutsTest {
    private CutsTest() {
    }

    public static void main(String[] args) {
        promise27();
        promise28();
        Script.end();
    }

    private static void promise27() {
        Script.run("27: nothing is delivered",
            "cutSize(0, 0) = 0; insertForward(0, 0, 1, 0, 0, 2) = 1; cutSize(0, 0) = 0; cutSize(5, 3) = 0",
            "cutSize(0, 1) = 1; connect(0, 1, 1, 0) = 1; cutSize(0, 1) = 0; cutSize(1, 0) = 0");
        Script.run("27: rules behind take over, until three are not enough",
            "insertForward(0, 0, 1, 0, 0, 2) = 1; cutSize(0, 1) = 1; insertForward(0, 1, 1, 0, 0, 2) = 2",
            "cutSize(0, 1) = 2; insertForward(0, 2, 1, 0, 0, 6) = 3; cutSize(0, 1) = 3; cutSize(0, 2) = 0",
            "insertForward(0, 3, 1, 8, 8, 2) = 4; cutSize(0, 1) = NONE; switchRule(0, 1, false) = 1",
            "cutSize(0, 1) = 3; insertDrop(0, 3, 1, 0, 0) = 5; cutSize(0, 1) = 2; inject(0, 1, 0, 0) = 16",
            "cutSize(0, 1) = 0");
        Script.run("27: the injection counts",
            "insertForward(0, 0, 1, 8, 8, 2) = 1; insertForward(0, 1, 1, 8, 0, 2) = 2; cutSize(0, 1) = 2",
            "inject(0, 0, 8, 0) = 8; cutSize(0, 1) = 1; cutRule(0, 1, 0) = 1");
        Script.run("27: rules of several boxes",
            "connect(0, 1, 1, 0) = 1; connect(0, 2, 2, 0) = 2; connect(1, 1, 3, 0) = 3; connect(2, 1, 3, 1) = 4",
            "insertForward(0, 0, 1, 8, 8, 2) = 1; insertForward(0, 1, 1, 8, 0, 4) = 2",
            "insertForward(1, 0, 15, 0, 0, 2) = 1; insertForward(2, 0, 15, 0, 0, 2) = 1",
            "insertForward(3, 0, 1, 0, 0, 8) = 1; insertForward(3, 1, 2, 0, 0, 8) = 2; cutSize(3, 3) = 2",
            "cutRule(3, 3, 0) = 0; cutRule(3, 3, 1) = 1; insertForward(0, 2, 1, 0, 0, 4) = 3",
            "cutSize(3, 3) = 2; cutRule(3, 3, 0) = 0; cutRule(3, 3, 1) = 20");
        // Each box sends two copies to the next one, and only header 31 is delivered by the last.
        StringBuilder chain = new StringBuilder("reset(5) = 4;");
        for (int box = 0; box < 5; box++) {
            chain.append("connect(" + box + ", 2, " + (box + 1) + ", 0) = " + (2 * box + 1) + ";");
            chain.append("connect(" + box + ", 3, " + (box + 1) + ", 1) = " + (2 * box + 2) + ";");
            chain.append("insertForward(" + box + ", 0, 15, 0, 0, 12) = 1;");
        }
        Script.run("27: many copies that meet again", chain.toString(),
            "insertForward(5, 0, 15, 31, 31, 4) = 1; delivered(5, 2) = 2147483648; cutSize(5, 2) = 1",
            "cutRule(5, 2, 0) = 0; insertForward(0, 1, 15, 0, 0, 8) = 2; cutRule(5, 2, 0) = 10");
        Script.run("27: header 0 and port 0",
            "inject(0, 0, 15, 0) = 1; insertForward(0, 0, 1, 15, 0, 1) = 1; cutSize(0, 0) = 1; cutSize(0, 1) = 0");
        Script.run("27: nothing changes by it",
            "insertForward(0, 0, 1, 0, 0, 2) = 1; insertForward(0, 1, 1, 0, 0, 2) = 2; cutSize(0, 1) = 2",
            "rule(0, 0, 6) = 1; rule(0, 1, 6) = 1; count(4) = 2; delivered(0, 1) = 65535; hits(0, 0) = 16");
        Script.run("27: errors", "cutSize(6, 0) = NO_SUCH_PLACE; cutSize(-1, 0) = NO_SUCH_PLACE",
            "cutSize(0, 4) = NO_SUCH_PLACE; cutSize(0, -1) = NO_SUCH_PLACE");
    }

    private static void promise28() {
        Script.run("28: the first box, then the first rule",
            "connect(2, 1, 0, 0) = 1; inject(2, 0, 0, 0) = 16; insertDrop(0, 0, 8, 0, 0) = 1",
            "insertForward(2, 0, 1, 0, 0, 2) = 1; insertForward(0, 1, 1, 0, 0, 2) = 2; cutSize(0, 1) = 1",
            "cutRule(0, 1, 0) = 1; insertForward(0, 2, 1, 0, 0, 2) = 3; cutSize(0, 1) = 1",
            "cutRule(0, 1, 0) = 20; insertForward(2, 1, 1, 0, 0, 2) = 2; cutSize(0, 1) = 2",
            "cutRule(0, 1, 0) = 1; cutRule(0, 1, 1) = 2; cutRule(0, 1, 2) = NONE");
        Script.run("28: three rules",
            "insertDrop(5, 0, 8, 0, 0) = 1; insertForward(5, 1, 1, 12, 0, 2) = 2; insertDrop(5, 2, 8, 0, 0) = 3",
            "insertForward(5, 3, 1, 12, 4, 2) = 4; insertForward(5, 4, 1, 12, 12, 2) = 5; inject(5, 0, 0, 0) = 16",
            "cutSize(5, 1) = 3; cutRule(5, 1, 0) = 51; cutRule(5, 1, 1) = 53; cutRule(5, 1, 2) = 54",
            "cutRule(5, 1, 3) = NONE; cutRule(5, 1, 2147483647) = NONE");
        Script.run("28: no set, or an empty one",
            "cutRule(0, 1, 0) = NONE; insertForward(0, 0, 1, 0, 0, 2) = 1; insertForward(0, 0, 1, 1, 0, 2) = 2",
            "insertForward(0, 0, 1, 2, 0, 2) = 3; insertForward(0, 0, 1, 4, 0, 2) = 4; cutSize(0, 1) = NONE",
            "cutRule(0, 1, 0) = NONE; cutRule(0, 1, 2) = NONE");
        Script.run("28: rules that are off are not taken",
            "insertForward(0, 0, 1, 0, 0, 2) = 1; insertForward(0, 1, 1, 0, 0, 2) = 2",
            "switchRule(0, 0, false) = 1; cutSize(0, 1) = 1; cutRule(0, 1, 0) = 1");
        Script.run("28: errors in their order",
            "cutRule(6, 0, -1) = NO_SUCH_PLACE; cutRule(0, 4, 0) = NO_SUCH_PLACE; cutRule(-1, 0, 0) = NO_SUCH_PLACE",
            "cutRule(0, -1, 0) = NO_SUCH_PLACE; cutRule(0, 0, -1) = BAD_VALUE; cutRule(0, 0, -2147483648) = BAD_VALUE");
    }
}
