/** The sentences of promises 16 to 22: the injection and its arrivals. */
final class ArrivalsBounds {
    private static final String BOX = "`box`: a box";
    private static final String PORT = "`port`: a port";
    /** Every place has a link, and every box sends everything everywhere. */
    private static final String FLOODED = "reset(5) = 4;" + Setups.ALL_LINKS
        + "insertForward(0, 0, 15, 0, 0, 15) = 1; insertForward(1, 0, 15, 0, 0, 15) = 1;"
        + "insertForward(2, 0, 15, 0, 0, 15) = 1; insertForward(3, 0, 15, 0, 0, 15) = 1;"
        + "insertForward(4, 0, 15, 0, 0, 15) = 1; insertForward(5, 0, 15, 0, 0, 15) = 1;";

    private ArrivalsBounds() {
    }

    static void run() {
        promise16();
        promise17();
        promise18();
        promise19();
        promise20();
        promise21();
        promise21Cover();
        promise22();
    }

    private static void promise16() {
        Bounds.test(16, "Sets the injection", "inject(5, 3, 15, 15) = 1; arriving(5, 3) = 32768; arriving(0, 0) = 0",
            "inject(0, 0, 0, 0) = 16; arriving(0, 0) = 65535; arriving(5, 3) = 0; count(4) = 0; undo() = NONE");
        Bounds.same(16, "Sets the injection", "inject(5, 3, 15, 15) = 1; inject(0, 0, 0, 15) = 16", "");
        Bounds.test(16, BOX, "inject(<0..5>, 1, 0, 0) = NO_SUCH_PLACE; inject(5, 1, 0, 0) = 16; arriving(5, 1) = 65535",
            "inject(<0..5>, 1, 0, 0) = NO_SUCH_PLACE; inject(0, 1, 0, 0) = 16; arriving(0, 1) = 65535");
        Bounds.test(16, PORT, "inject(1, <0..3>, 0, 0) = NO_SUCH_PLACE; inject(1, 3, 0, 0) = 16; arriving(1, 3) = 65535",
            "inject(1, <0..3>, 0, 0) = NO_SUCH_PLACE; inject(1, 0, 0, 0) = 16; arriving(1, 0) = 65535");
        for (int bits = 1; bits <= 5; bits++) {
            int last = (1 << bits) - 1;
            String reset = "reset(" + bits + ") = 4;";
            Bounds.test(16, "`care`: of its cube", reset, "inject(0, 0, <0.." + last + ">, 0) = BAD_VALUE",
                "inject(0, 0, " + last + ", 0) = 1; inject(0, 0, 0, 0) = " + (last + 1));
            Bounds.test(16, "`value`: of its cube", reset, "inject(0, 0, 0, <0.." + last + ">) = BAD_VALUE",
                "inject(0, 0, " + last + ", <0.." + last + ">) = BAD_VALUE; inject(0, 0, " + last + ", " + last + ") = 1",
                "arriving(0, 0) = " + (1L << last) + "; inject(0, 0, 0, " + last + ") = " + (last + 1));
        }
        Bounds.test(16, "Returns the number of its headers", "inject(0, 0, 15, 9) = 1; inject(0, 0, 7, 9) = 2",
            "inject(0, 0, 3, 9) = 4; inject(0, 0, 1, 9) = 8; inject(0, 0, 0, 9) = 16; reset(5) = 4; inject(0, 0, 0, 0) = 32",
            "inject(0, 0, 31, 0) = 1; reset(1) = 5; inject(0, 0, 0, 1) = 2; inject(0, 0, 1, 1) = 1");
        Bounds.test(16, "NO_SUCH_PLACE", Setups.RICH, "inject(-1, 0, 0, 0) = NO_SUCH_PLACE; inject(6, 0, 0, 0) = NO_SUCH_PLACE",
            "inject(0, -1, 0, 0) = NO_SUCH_PLACE; inject(0, 4, 0, 0) = NO_SUCH_PLACE; inject(6, 4, 16, 16) = NO_SUCH_PLACE");
        Bounds.test(16, "BAD_VALUE", Setups.RICH, "inject(0, 0, 16, 0) = BAD_VALUE; inject(0, 0, 0, 16) = BAD_VALUE",
            "inject(0, 0, -1, 0) = BAD_VALUE; inject(0, 0, 0, -1) = BAD_VALUE; arriving(0, 0) = 3855");
    }

    private static void promise17() {
        Bounds.test(17, BOX, "inject(5, 1, 0, 0) = 16; arriving(5, 1) = 65535; arriving(<0..5>, 1) = NO_VALUE",
            "inject(0, 1, 0, 0) = 16; arriving(0, 1) = 65535; arriving(5, 1) = 0");
        Bounds.test(17, PORT, "inject(1, 3, 0, 0) = 16; arriving(1, 3) = 65535; arriving(1, <0..3>) = NO_VALUE",
            "inject(1, 0, 0, 0) = 16; arriving(1, 0) = 65535; arriving(1, 3) = 0");
        Bounds.test(17, "Returns the set of the headers that arrive at this place", FLOODED, "arriving(0, 0) = 4294967295",
            "arriving(5, 3) = 4294967295; inject(3, 3, 31, 31) = 1; arriving(0, 0) = 2147483648",
            "arriving(5, 3) = 2147483648; inject(3, 3, 31, 0) = 1; arriving(0, 0) = 1; disconnect(3, 3) = 11",
            "switchRule(3, 0, false) = 1; arriving(0, 0) = 0; arriving(3, 3) = 1");
        Bounds.test(17, "NO_VALUE", Setups.RICH, "arriving(-1, 0) = NO_VALUE; arriving(6, 0) = NO_VALUE",
            "arriving(0, -1) = NO_VALUE; arriving(0, 4) = NO_VALUE; arriving(0, 0) = 3855");
    }

    private static void promise18() {
        Bounds.test(18, BOX, "inject(5, 1, 0, 0) = 16; insertForward(5, 0, 2, 0, 0, 2) = 1; delivered(5, 1) = 65535",
            "delivered(<0..5>, 1) = NO_VALUE; insertForward(0, 0, 1, 0, 0, 2) = 1; inject(0, 0, 0, 0) = 16",
            "delivered(0, 1) = 65535; delivered(5, 1) = 0");
        Bounds.test(18, PORT, "insertForward(0, 0, 1, 0, 0, 9) = 1; delivered(0, 0) = 65535; delivered(0, 3) = 65535",
            "delivered(0, 1) = 0; delivered(0, <0..3>) = NO_VALUE");
        Bounds.test(18, "Returns the set of the headers that are delivered at this place", "delivered(0, 0) = 0", FLOODED,
            "delivered(0, 0) = 0; delivered(5, 3) = 0; disconnect(5, 3) = 11; delivered(5, 3) = 4294967295",
            "delivered(4, 3) = 4294967295; setRewriting(5, 0, 31, 31) = 1; delivered(5, 3) = 2147483648",
            "setRewriting(5, 0, 31, 0) = 1; delivered(5, 3) = 1; removeRule(5, 0) = 0; delivered(5, 3) = 0");
        Bounds.test(18, "NO_VALUE", Setups.RICH, "delivered(-1, 0) = NO_VALUE; delivered(6, 0) = NO_VALUE",
            "delivered(0, -1) = NO_VALUE; delivered(0, 4) = NO_VALUE; delivered(1, 2) = 2560");
    }

    private static void promise19() {
        Bounds.test(19, "Counts arrivals of a box, at all its ports", FLOODED, "arrivals(0, 0) = 128; arrivals(5, 0) = 128",
            "disconnect(5, 3) = 11; arrivals(5, 0) = 96; disconnect(5, 2) = 10; arrivals(5, 0) = 64; disconnect(5, 1) = 9",
            "arrivals(5, 0) = 32; disconnect(5, 0) = 8; arrivals(5, 0) = 0");
        Bounds.test(19, BOX, "inject(5, 0, 0, 0) = 16; arrivals(5, 0) = 16; arrivals(0, 0) = 0",
            "arrivals(<0..5>, 0) = NO_SUCH_PLACE; inject(0, 0, 0, 0) = 16; arrivals(0, 0) = 16");
        Bounds.test(19, "`what`: 0 for all arrivals, 1 for dropped, 2 for lost ones", "insertDrop(0, 0, 1, 12, 0) = 1",
            "insertForward(0, 1, 1, 15, 4, 1) = 2; arrivals(0, 0) = 16; arrivals(0, 1) = 4; arrivals(0, 2) = 11",
            "arrivals(0, <0..2>) = BAD_VALUE; switchRule(0, 0, false) = 1; arrivals(0, 1) = 0; arrivals(0, 2) = 15");
        Bounds.test(19, "Returns their number", "arrivals(1, 0) = 0; arrivals(1, 1) = 0; arrivals(1, 2) = 0", FLOODED,
            "arrivals(3, 0) = 128; arrivals(3, 1) = 0; arrivals(3, 2) = 0; insertDrop(3, 0, 15, 0, 0) = 2",
            "arrivals(3, 1) = 128; switchRule(3, 0, false) = 1; switchRule(3, 1, false) = 1; arrivals(3, 2) = 128",
            "arrivals(3, 1) = 0");
        Bounds.test(19, "NO_SUCH_PLACE", Setups.RICH, "arrivals(-1, 0) = NO_SUCH_PLACE; arrivals(6, 0) = NO_SUCH_PLACE");
        Bounds.test(19, "BAD_VALUE", Setups.RICH, "arrivals(0, 3) = BAD_VALUE; arrivals(0, -1) = BAD_VALUE",
            "arrivals(0, MAX) = BAD_VALUE; arrivals(0, MIN) = BAD_VALUE");
    }

    private static void promise20() {
        Bounds.test(20, BOX, "insertDrop(0, 0, 1, 0, 0) = 1; insertDrop(5, 0, 1, 0, 0) = 1; hits(0, 0) = 16; hits(5, 0) = 0",
            "hits(<0..5>, 0) = NO_SUCH_PLACE; inject(5, 0, 0, 0) = 16; hits(5, 0) = 16; hits(0, 0) = 0");
        Bounds.test(20, "`rule`: a rule of this box", "hits(0, 0) = NO_SUCH_RULE", Setups.sixRules(0),
            "hits(0, 0) = 16; hits(0, 5) = 0; hits(0, <0..5>) = NO_SUCH_RULE; removeRule(0, 0) = 5; hits(0, 1) = 16",
            "hits(0, 4) = 0; hits(0, 5) = NO_SUCH_RULE; hits(1, 0) = NO_SUCH_RULE");
        Bounds.test(20, "Returns the number of arrivals whose packets the rule handles", FLOODED, "hits(0, 0) = 128",
            "hits(5, 0) = 128; insertDrop(5, 0, 1, 31, 31) = 2; hits(5, 0) = 1; hits(5, 1) = 127",
            "switchRule(5, 1, false) = 1; hits(5, 1) = 0; hits(5, 0) = 1; switchRule(5, 0, false) = 1; hits(5, 0) = 0");
        Bounds.test(20, "NO_SUCH_PLACE", Setups.RICH, "hits(-1, 0) = NO_SUCH_PLACE; hits(6, 0) = NO_SUCH_PLACE");
        Bounds.test(20, "NO_SUCH_RULE", Setups.RICH, "hits(0, 2) = NO_SUCH_RULE; hits(0, -1) = NO_SUCH_RULE",
            "hits(5, 0) = NO_SUCH_RULE; hits(0, MAX) = NO_SUCH_RULE; hits(0, MIN) = NO_SUCH_RULE");
    }

    private static void promise21() {
        Bounds.test(21, "Returns a cube of a cover of the headers that arrive at a place", "cube(1, 0, 0, 0) = NONE",
            "cube(0, 0, 0, 0) = 0; cube(0, 0, 0, 1) = 0; inject(0, 0, 15, 15) = 1; cube(0, 0, 0, 0) = 15",
            "cube(0, 0, 0, 1) = 15; inject(0, 0, 15, 0) = 1; cube(0, 0, 0, 0) = 15; cube(0, 0, 0, 1) = 0");
        Bounds.test(21, BOX, "inject(5, 1, 0, 0) = 16; cube(5, 1, 0, 0) = 0; cube(<0..5>, 1, 0, 0) = NO_SUCH_PLACE",
            "cube(0, 1, 0, 0) = NONE");
        Bounds.test(21, PORT, "inject(1, 3, 0, 0) = 16; cube(1, 3, 0, 0) = 0; cube(1, <0..3>, 0, 0) = NO_SUCH_PLACE",
            "cube(1, 0, 0, 0) = NONE");
        Bounds.test(21, "`k`: number of the cube, from 0", "cube(0, 0, 0, 0) = 0; cube(0, 0, <0..>, 0) = BAD_VALUE",
            "cube(0, 0, <0..>, 1) = BAD_VALUE; cube(0, 0, 1, 0) = NONE; cube(0, 0, MAX, 0) = NONE; cube(0, 0, MAX, 1) = NONE");
        Bounds.test(21, "`what`: 0 for care, 1 for value (bits that are not in care are 0)", "inject(0, 0, 9, 15) = 4",
            "cube(0, 0, 0, 0) = 9; cube(0, 0, 0, 1) = 9; inject(0, 0, 9, 14) = 4; cube(0, 0, 0, 1) = 8",
            "cube(0, 0, 0, <0..1>) = BAD_VALUE; cube(0, 0, 9, <0..1>) = BAD_VALUE; cube(1, 0, 0, <0..1>) = BAD_VALUE");
        Bounds.test(21, "Returns the number", "reset(5) = 4; inject(0, 0, 31, 31) = 1; cube(0, 0, 0, 0) = 31",
            "cube(0, 0, 0, 1) = 31; inject(0, 0, 0, 31) = 32; cube(0, 0, 0, 0) = 0; cube(0, 0, 0, 1) = 0; reset(1) = 5",
            "cube(0, 0, 0, 0) = 0; inject(0, 0, 1, 1) = 1; cube(0, 0, 0, 0) = 1; cube(0, 0, 0, 1) = 1");
        Bounds.test(21, "NO_SUCH_PLACE", Setups.RICH, "cube(-1, 0, 0, 0) = NO_SUCH_PLACE; cube(6, 0, 0, 0) = NO_SUCH_PLACE",
            "cube(0, -1, 0, 0) = NO_SUCH_PLACE; cube(0, 4, 0, 0) = NO_SUCH_PLACE; cube(6, 4, -1, 2) = NO_SUCH_PLACE");
        Bounds.test(21, "BAD_VALUE if k is negative or what is out of range", Setups.RICH, "cube(0, 0, -1, 0) = BAD_VALUE",
            "cube(0, 0, MIN, 1) = BAD_VALUE; cube(0, 0, 0, 2) = BAD_VALUE; cube(0, 0, 0, -1) = BAD_VALUE",
            "cube(0, 0, MAX, 2) = BAD_VALUE; cube(5, 0, -1, 2) = BAD_VALUE; cube(5, 3, 99, -1) = BAD_VALUE");
    }

    private static void promise21Cover() {
        String least = "The cover is made as follows: as long as there are headers that are in no cube yet, the least one of"
            + " them is taken, as a cube with all bits in care";
        // Four boxes drop the headers with an odd number of ones: no two of the others are neighbours.
        int[] odd = {1, 2, 4, 7, 8, 11, 13, 14, 16, 19, 21, 22, 25, 26, 28, 31};
        int[] even = {0, 3, 5, 6, 9, 10, 12, 15, 17, 18, 20, 23, 24, 27, 29, 30};
        StringBuilder calls = new StringBuilder("reset(5) = 4;");
        for (int box = 0; box < 4; box++) {
            calls.append("connect(" + box + ", 1, " + (box + 1) + ", 0) = " + (box + 1) + ";");
            for (int i = 0; i < 4; i++) {
                calls.append("insertDrop(" + box + ", " + i + ", 15, 31, " + odd[4 * box + i] + ") = " + (i + 1) + ";");
            }
            calls.append("insertForward(" + box + ", 4, 1, 0, 0, 2) = 5;");
        }
        StringBuilder cubes = new StringBuilder();
        for (int k = 0; k < 16; k++) {
            cubes.append("cube(4, 0, " + k + ", 0) = 31; cube(4, 0, " + k + ", 1) = " + even[k] + ";");
        }
        Bounds.test(21, least, calls.toString(), cubes.toString(), "cube(4, 0, 16, 0) = NONE; cube(4, 0, MAX, 1) = NONE");
        Bounds.test(21, "NONE if there are not so many cubes", calls.toString(), "cube(4, 0, 15, 1) = 30",
            "cube(4, 0, 16, 1) = NONE; cube(5, 0, 0, 0) = NONE; cube(0, 0, 1, 0) = NONE; cube(0, 0, MAX, 0) = NONE");
        // Headers 0, 1, 2 arrive: bit 0 goes first, so 2 has a cube of its own, which takes 0 in again.
        Bounds.test(21, "then, for each bit in ascending order, the bit is taken out of care if all headers of the cube are"
            + " still among those that arrive", "reset(2) = 4; connect(0, 1, 1, 0) = 1; insertDrop(0, 0, 1, 3, 3) = 1",
            "insertForward(0, 1, 1, 0, 0, 2) = 2; arriving(1, 0) = 7; cube(1, 0, 0, 0) = 2; cube(1, 0, 0, 1) = 0",
            "cube(1, 0, 1, 0) = 1; cube(1, 0, 1, 1) = 0; cube(1, 0, 2, 0) = NONE; removeRule(0, 0) = 1",
            "cube(1, 0, 0, 0) = 0; cube(1, 0, 1, 0) = NONE; insertDrop(0, 0, 1, 0, 0) = 2; cube(1, 0, 0, 0) = NONE");
    }

    private static void promise22() {
        Bounds.test(22, "Returns the least header of the injection from which an arrival follows",
            "connect(0, 1, 1, 0) = 1; insertForward(0, 0, 1, 0, 0, 2) = 1; setRewriting(0, 0, 15, 15) = 1",
            "origin(1, 0, 15) = 0; origin(1, 0, 14) = NONE; inject(0, 0, 8, 8) = 8; origin(1, 0, 15) = 8",
            "inject(0, 0, 15, 15) = 1; origin(1, 0, 15) = 15; origin(0, 0, 15) = 15; origin(0, 0, 14) = NONE",
            "switchRule(0, 0, false) = 1; origin(1, 0, 15) = NONE");
        Bounds.test(22, BOX, "inject(5, 1, 0, 0) = 16; origin(5, 1, 7) = 7; origin(<0..5>, 1, 7) = NO_SUCH_PLACE",
            "origin(0, 1, 7) = NONE");
        Bounds.test(22, PORT, "inject(1, 3, 0, 0) = 16; origin(1, 3, 7) = 7; origin(1, <0..3>, 7) = NO_SUCH_PLACE",
            "origin(1, 0, 7) = NONE");
        Bounds.test(22, "`header`: a header", "origin(0, 0, 0) = 0; origin(0, 0, 15) = 15; origin(0, 0, <0..15>) = BAD_VALUE",
            "reset(1) = 4; origin(0, 0, 1) = 1; origin(0, 0, <0..1>) = BAD_VALUE; reset(5) = 1; origin(0, 0, 31) = 31",
            "origin(0, 0, <0..31>) = BAD_VALUE; origin(1, 0, <0..31>) = BAD_VALUE");
        Bounds.test(22, "Returns the header of the injection", FLOODED, "origin(5, 3, 31) = 31; origin(5, 3, 0) = 0",
            "inject(2, 2, 31, 31) = 1; origin(5, 3, 31) = 31; origin(5, 3, 30) = NONE; setRewriting(2, 0, 31, 0) = 1",
            "origin(5, 3, 0) = 31; origin(5, 3, 31) = NONE; origin(2, 2, 31) = 31; origin(2, 2, 0) = 31");
        Bounds.test(22, "NO_SUCH_PLACE", Setups.RICH, "origin(-1, 0, 0) = NO_SUCH_PLACE; origin(6, 0, 0) = NO_SUCH_PLACE",
            "origin(0, -1, 0) = NO_SUCH_PLACE; origin(0, 4, 0) = NO_SUCH_PLACE; origin(6, 4, 16) = NO_SUCH_PLACE");
        Bounds.test(22, "BAD_VALUE", Setups.RICH, "origin(0, 0, 16) = BAD_VALUE; origin(0, 0, -1) = BAD_VALUE",
            "origin(5, 3, MAX) = BAD_VALUE; origin(5, 3, MIN) = BAD_VALUE");
        Bounds.test(22, "NONE if there is no such arrival", Setups.RICH, "origin(0, 0, 4) = NONE; origin(0, 0, 3) = 3",
            "origin(5, 3, 0) = NONE; origin(1, 0, 0) = NONE; origin(1, 0, 9) = 8; origin(1, 0, 8) = NONE",
            "insertDrop(0, 0, 15, 0, 0) = 3; origin(1, 0, 9) = NONE");
    }
}
