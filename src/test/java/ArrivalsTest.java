/** Promises 16 to 22: the injection and its arrivals. */
public final class ArrivalsTest {
    /** Box 0 sends odd headers to box 1, which clears bit 1 and sends them on to box 2. */
    private static final String LINE =
        "reset(3) = 4; connect(0, 1, 1, 0) = 1; connect(1, 1, 2, 0) = 2;"
        + "insertForward(0, 0, 1, 1, 1, 2) = 1; insertForward(1, 0, 1, 0, 0, 2) = 1;"
        + "setRewriting(1, 0, 2, 0) = 1; insertDrop(2, 0, 15, 4, 4) = 1;"
        + "insertForward(2, 1, 15, 0, 0, 12) = 2;";

    private ArrivalsTest() {
    }

    public static void main(String[] args) {
        promise16();
        promise17();
        promise18();
        promise19();
        promise20();
        promise21();
        promise22();
        Script.end();
    }

    private static void promise16() {
        Script.run("16: place and cube",
            "inject(3, 2, 0, 15) = 16; arriving(3, 2) = 65535; arriving(0, 0) = 0",
            "inject(3, 2, 15, 15) = 1; arriving(3, 2) = 32768; inject(5, 3, 9, 14) = 4",
            "arriving(5, 3) = 21760; arriving(3, 2) = 0; count(4) = 0");
        Script.run("16: errors change nothing",
            "inject(1, 1, 15, 2) = 1; inject(6, 0, 99, 0) = NO_SUCH_PLACE; inject(-1, 0, 0, 0) = NO_SUCH_PLACE",
            "inject(0, 4, 0, 0) = NO_SUCH_PLACE; inject(0, -1, 0, 0) = NO_SUCH_PLACE",
            "inject(0, 0, 16, 0) = BAD_VALUE; inject(0, 0, 0, 16) = BAD_VALUE; inject(0, 0, -1, 0) = BAD_VALUE",
            "inject(0, 0, 0, -1) = BAD_VALUE; arriving(1, 1) = 4; arriving(0, 0) = 0");
        Script.run("16: five bits", "reset(5) = 4; inject(0, 0, 16, 16) = 16; arriving(0, 0) = 4294901760",
            "inject(0, 0, 0, 0) = 32; arriving(0, 0) = 4294967295");
    }

    private static void promise17() {
        Script.run("17: along a line", LINE,
            "arriving(0, 0) = 255; arriving(1, 0) = 170; arriving(2, 0) = 34; arriving(1, 1) = 0",
            "inject(0, 0, 3, 3) = 2; arriving(1, 0) = 136; arriving(2, 0) = 34");
        Script.run("17: copies go to each output", "connect(0, 1, 1, 0) = 1; connect(0, 2, 1, 1) = 2",
            "insertForward(0, 0, 1, 0, 0, 15) = 1; arriving(1, 0) = 65535; arriving(1, 1) = 65535",
            "arriving(0, 1) = 0");
        Script.run("17: by two rules over one link",
            "connect(0, 1, 1, 0) = 1; insertForward(0, 0, 1, 8, 8, 2) = 1; insertForward(0, 1, 1, 0, 0, 2) = 2",
            "arriving(1, 0) = 65535; arrivals(1, 0) = 16");
        Script.run("17: from two ports over one link",
            "connect(2, 1, 0, 0) = 1; connect(2, 2, 0, 3) = 2; connect(0, 1, 1, 0) = 3; inject(2, 0, 0, 0) = 16",
            "insertForward(2, 0, 1, 0, 0, 6) = 1; insertForward(0, 0, 1, 0, 0, 2) = 1; setRewriting(0, 0, 15, 3) = 1",
            "insertForward(0, 1, 8, 0, 0, 2) = 2; setRewriting(0, 1, 15, 5) = 1; arriving(1, 0) = 40");
        Script.run("17: around a loop once", "connect(0, 1, 0, 2) = 1; insertForward(0, 0, 15, 0, 0, 2) = 1",
            "inject(0, 0, 15, 4) = 1; arriving(0, 2) = 16; arriving(0, 0) = 16; arriving(0, 1) = 0",
            "arrivals(0, 0) = 2");
        Script.run("17: errors", "arriving(6, 0) = NO_VALUE; arriving(-1, 0) = NO_VALUE",
            "arriving(0, 4) = NO_VALUE; arriving(0, -1) = NO_VALUE");
    }

    private static void promise18() {
        Script.run("18: where there is no link", LINE,
            "delivered(2, 2) = 2; delivered(2, 3) = 2; delivered(2, 1) = 0; delivered(1, 1) = 0",
            "disconnect(2, 0) = 1; delivered(1, 1) = 34; delivered(2, 2) = 0; delivered(0, 1) = 0");
        Script.run("18: as they are behind the rewriting, from all ports",
            "connect(0, 1, 0, 2) = 1; insertForward(0, 0, 1, 0, 0, 10) = 1",
            "insertForward(0, 1, 4, 8, 8, 8) = 2; setRewriting(0, 1, 15, 3) = 1; inject(0, 0, 14, 8) = 2",
            "delivered(0, 3) = 776; delivered(0, 1) = 0");
        Script.run("18: errors", "delivered(6, 0) = NO_VALUE; delivered(-1, 0) = NO_VALUE",
            "delivered(0, 4) = NO_VALUE; delivered(0, -1) = NO_VALUE; delivered(0, 0) = 0");
    }

    private static void promise19() {
        Script.run("19: all, dropped, lost", LINE,
            "arrivals(0, 0) = 8; arrivals(0, 1) = 0; arrivals(0, 2) = 4; arrivals(1, 0) = 4",
            "arrivals(1, 1) = 0; arrivals(1, 2) = 0; arrivals(2, 0) = 2; arrivals(2, 1) = 1",
            "arrivals(2, 2) = 0; arrivals(3, 0) = 0");
        Script.run("19: at all ports", "connect(0, 1, 1, 0) = 1; connect(0, 2, 1, 1) = 2",
            "insertForward(0, 0, 1, 0, 0, 6) = 1; insertDrop(1, 0, 1, 0, 0) = 1",
            "insertDrop(1, 1, 2, 8, 8) = 2; arrivals(1, 0) = 32; arrivals(1, 1) = 24; arrivals(1, 2) = 8");
        Script.run("19: errors in their order",
            "arrivals(6, 9) = NO_SUCH_PLACE; arrivals(-1, 0) = NO_SUCH_PLACE; arrivals(0, 3) = BAD_VALUE",
            "arrivals(0, -1) = BAD_VALUE");
    }

    private static void promise20() {
        Script.run("20: the rule that handles them", LINE,
            "hits(0, 0) = 4; hits(1, 0) = 4; hits(2, 0) = 1; hits(2, 1) = 1; switchRule(2, 0, false) = 1",
            "hits(2, 0) = 0; hits(2, 1) = 2; moveRule(2, 1, 0) = 1; hits(2, 0) = 2");
        Script.run("20: at all ports", "connect(0, 1, 1, 0) = 1; connect(0, 2, 1, 1) = 2",
            "insertForward(0, 0, 1, 0, 0, 6) = 1; insertDrop(1, 0, 15, 8, 8) = 1; hits(1, 0) = 16");
        Script.run("20: errors in their order",
            "hits(6, 9) = NO_SUCH_PLACE; hits(-1, 0) = NO_SUCH_PLACE; hits(0, 0) = NO_SUCH_RULE",
            "insertDrop(0, 0, 1, 0, 0) = 1; hits(0, 1) = NO_SUCH_RULE; hits(0, -1) = NO_SUCH_RULE");
    }

    private static void promise21() {
        Script.run("21: one cube",
            "cube(0, 0, 0, 0) = 0; cube(0, 0, 0, 1) = 0; cube(0, 0, 1, 0) = NONE; cube(1, 0, 0, 0) = NONE",
            "inject(0, 0, 15, 0) = 1; cube(0, 0, 0, 0) = 15; cube(0, 0, 0, 1) = 0; cube(0, 0, 1, 0) = NONE",
            "inject(0, 0, 5, 13) = 4; cube(0, 0, 0, 0) = 5; cube(0, 0, 0, 1) = 5; cube(0, 0, 1, 1) = NONE");
        // Headers 1, 2, 3 arrive: 1 grows by bit 1 (not by bit 0) to 1 and 3; 2 grows by bit 0 to 2 and 3.
        Script.run("21: cubes may meet", "reset(2) = 4; connect(0, 1, 1, 0) = 1",
            "insertDrop(0, 0, 1, 3, 0) = 1; insertForward(0, 1, 1, 0, 0, 2) = 2; arriving(1, 0) = 14",
            "cube(1, 0, 0, 0) = 1; cube(1, 0, 0, 1) = 1; cube(1, 0, 1, 0) = 2; cube(1, 0, 1, 1) = 2",
            "cube(1, 0, 2, 0) = NONE");
        // Headers 0, 1, 2 arrive: bit 0 is taken out before bit 1 could be.
        Script.run("21: bits in ascending order", "reset(2) = 4; connect(0, 1, 1, 0) = 1",
            "insertDrop(0, 0, 1, 3, 3) = 1; insertForward(0, 1, 1, 0, 0, 2) = 2; arriving(1, 0) = 7",
            "cube(1, 0, 0, 0) = 2; cube(1, 0, 0, 1) = 0; cube(1, 0, 1, 0) = 1; cube(1, 0, 1, 1) = 0",
            "cube(1, 0, 2, 1) = NONE");
        Script.run("21: five bits", "reset(5) = 4; inject(0, 0, 17, 16) = 8; cube(0, 0, 0, 0) = 17",
            "cube(0, 0, 0, 1) = 16");
        Script.run("21: errors in their order",
            "cube(6, 0, -1, 9) = NO_SUCH_PLACE; cube(0, 4, 0, 0) = NO_SUCH_PLACE",
            "cube(-1, 0, 0, 0) = NO_SUCH_PLACE; cube(0, -1, 0, 0) = NO_SUCH_PLACE",
            "cube(0, 0, -1, 0) = BAD_VALUE; cube(0, 0, 0, 2) = BAD_VALUE; cube(0, 0, 0, -1) = BAD_VALUE",
            "cube(0, 0, 9, 2) = BAD_VALUE; cube(0, 0, 2147483647, 0) = NONE");
    }

    private static void promise22() {
        Script.run("22: the least one", LINE,
            "origin(2, 0, 1) = 1; origin(2, 0, 5) = 5; origin(2, 0, 3) = NONE; origin(1, 0, 3) = 3",
            "inject(0, 0, 2, 2) = 4; origin(2, 0, 1) = 3; origin(2, 0, 5) = 7; origin(1, 0, 1) = NONE");
        Script.run("22: at the place of the injection",
            "origin(0, 0, 0) = 0; origin(0, 0, 9) = 9; inject(0, 0, 8, 8) = 8; origin(0, 0, 7) = NONE",
            "origin(0, 0, 8) = 8");
        // Header 2 comes back as 5 to where both came in.
        Script.run("22: what comes back to where it came in",
            "connect(0, 0, 0, 1) = 1; insertForward(0, 0, 1, 15, 2, 2) = 1; setRewriting(0, 0, 15, 5) = 1",
            "origin(0, 0, 5) = 2; origin(0, 0, 4) = 4; origin(0, 1, 5) = NONE");
        Script.run("22: errors in their order",
            "origin(6, 0, 99) = NO_SUCH_PLACE; origin(0, 4, 0) = NO_SUCH_PLACE; origin(-1, 0, 0) = NO_SUCH_PLACE",
            "origin(0, -1, 0) = NO_SUCH_PLACE; origin(0, 0, 16) = BAD_VALUE; origin(0, 0, -1) = BAD_VALUE",
            "origin(1, 0, 0) = NONE");
    }
}
