/** The sentences of promises 23 to 28: distance, trace, traceEnd, loops, cutSize, cutRule. */
final class PacketsBounds {
    private static final String BOX = "`box`: a box";
    private static final String PORT = "`port`: a port";
    private static final String HEADER = "`header`: a header of the injection";
    /** Headers 8 to 11 come in at box 5; 8 is delivered, 9 dropped, 10 lost, 11 goes around for ever. */
    private static final String FOUR_ENDS = "inject(5, 3, 12, 8) = 4; connect(5, 0, 5, 1) = 1;"
        + "insertForward(5, 0, 15, 15, 8, 4) = 1; insertDrop(5, 1, 15, 15, 9) = 2;"
        + "insertForward(5, 2, 15, 15, 11, 1) = 3;";

    private PacketsBounds() {
    }

    static void run() {
        promise23();
        promise24();
        promise25();
        promise26();
        promise27();
        promise27Order();
        promise28();
    }

    /**
     * A packet comes in with header 0 at port 2 of box 0, and goes on by port 3 to port 2 of the next
     * box, until the last one: 32 arrivals in each box.
     */
    private static String counters() {
        StringBuilder calls = new StringBuilder("reset(5) = 4; inject(0, 2, 31, 0) = 1;");
        for (int box = 0; box < 6; box++) {
            if (box > 0) {
                calls.append("connect(" + (box - 1) + ", 3, " + box + ", 2) = ?;");
            }
            calls.append(counter(box));
        }
        return calls.toString();
    }

    /** Rules that count a header up to 31, around ports 1 and 0, and then send it by port 3 as 0. */
    private static String counter(int box) {
        StringBuilder calls = new StringBuilder("connect(" + box + ", 1, " + box + ", 0) = ?;");
        for (int bit = 0; bit < 5; bit++) {
            int care = (2 << bit) - 1;
            calls.append("insertForward(" + box + ", " + bit + ", 15, " + care + ", " + care / 2 + ", 2) = ?;");
            calls.append("setRewriting(" + box + ", " + bit + ", " + care + ", " + (1 << bit) + ") = 1;");
        }
        return calls + "insertForward(" + box + ", 5, 15, 0, 0, 8) = 6; setRewriting(" + box + ", 5, 31, 0) = 1;";
    }

    private static void promise23() {
        String least = "Returns by how many links at least a packet of the injection comes to a place";
        Bounds.test(23, least, counters(), "distance(0, 0, 2) = 0; distance(0, 0, 0) = 1; distance(0, 1, 2) = 32",
            "distance(0, 1, 0) = 33; distance(0, 5, 2) = 160; distance(0, 5, 0) = 161; distance(0, 5, 3) = NONE",
            "connect(5, 3, 0, 2) = 12; distance(0, 0, 2) = 0; distance(0, 5, 2) = 160");
        Bounds.test(23, least, "connect(0, 1, 1, 0) = 1; connect(0, 2, 2, 0) = 2; connect(2, 1, 1, 1) = 3",
            "insertForward(0, 0, 1, 0, 0, 6) = 1; insertForward(2, 0, 15, 0, 0, 2) = 1; distance(0, 1, 0) = 1",
            "distance(0, 1, 1) = 2; distance(15, 2, 0) = 1; distance(15, 2, 1) = NONE; distance(0, 0, 0) = 0");
        Bounds.test(23, HEADER, FOUR_ENDS, "distance(8, 5, 3) = 0; distance(11, 5, 3) = 0; distance(<8..11>, 5, 3) = BAD_VALUE",
            "distance(0, 5, 3) = BAD_VALUE; distance(15, 5, 3) = BAD_VALUE; inject(5, 3, 15, 15) = 1; distance(15, 5, 3) = 0",
            "distance(<15..15>, 5, 3) = BAD_VALUE; reset(5) = 4; distance(0, 0, 0) = 0; distance(31, 0, 0) = 0",
            "distance(<0..31>, 0, 0) = BAD_VALUE; reset(1) = 5; distance(1, 0, 0) = 0; distance(<0..1>, 0, 0) = BAD_VALUE");
        Bounds.test(23, BOX, "distance(0, 0, 0) = 0; distance(0, 5, 0) = NONE; distance(0, <0..5>, 0) = NO_SUCH_PLACE",
            "inject(5, 0, 0, 0) = 16; distance(0, 5, 0) = 0; distance(0, 0, 0) = NONE");
        Bounds.test(23, PORT, "distance(0, 0, 0) = 0; distance(0, 0, 3) = NONE; distance(0, 0, <0..3>) = NO_SUCH_PLACE",
            "inject(0, 3, 0, 0) = 16; distance(0, 0, 3) = 0; distance(0, 0, 0) = NONE");
        Bounds.test(23, "Returns the least number of links", FOUR_ENDS, "distance(11, 5, 3) = 0; distance(11, 5, 1) = 1",
            "distance(11, 5, 0) = NONE; insertForward(5, 0, 2, 0, 0, 2) = 4; distance(11, 5, 0) = 2");
        Bounds.test(23, "BAD_VALUE if the injection does not have this header", FOUR_ENDS, "distance(7, 5, 3) = BAD_VALUE",
            "distance(12, 5, 3) = BAD_VALUE; distance(-1, 5, 3) = BAD_VALUE; distance(16, 6, 4) = BAD_VALUE",
            "distance(7, 6, 0) = BAD_VALUE; distance(40, 5, 3) = BAD_VALUE; distance(72, 5, 3) = BAD_VALUE");
        Bounds.test(23, "NO_SUCH_PLACE", FOUR_ENDS, "distance(8, -1, 0) = NO_SUCH_PLACE; distance(8, 6, 0) = NO_SUCH_PLACE",
            "distance(8, 0, -1) = NO_SUCH_PLACE; distance(8, 0, 4) = NO_SUCH_PLACE; distance(8, MIN, MAX) = NO_SUCH_PLACE");
        Bounds.test(23, "NONE if no copy of the packet comes there", FOUR_ENDS, "distance(8, 5, 1) = NONE",
            "distance(9, 5, 1) = NONE; distance(10, 5, 1) = NONE; distance(11, 5, 1) = 1; distance(8, 5, 2) = NONE",
            "distance(8, 0, 0) = NONE");
    }

    private static void promise24() {
        Bounds.test(24, "Follows a packet of the injection: of several copies always the one that goes out at the lowest port",
            "connect(0, 1, 1, 0) = 1; connect(0, 3, 2, 0) = 2; insertForward(0, 0, 1, 0, 0, 10) = 1; trace(0, 1) = 1000",
            "insertForward(0, 0, 1, 0, 0, 8) = 2; trace(0, 1) = 2000; insertForward(0, 0, 1, 0, 0, 15) = 3",
            "trace(0, 1) = NONE; traceEnd(0) = 0; insertForward(0, 0, 1, 0, 0, 14) = 4; trace(0, 1) = 1000");
        Bounds.test(24, "The arrivals are numbered from 0 (that of the injection itself)", FOUR_ENDS, "trace(8, 0) = 5308",
            "trace(11, 0) = 5311; trace(11, 1) = 5111; trace(8, <0..>) = BAD_VALUE; reset(5) = 4; trace(31, 0) = 31",
            "trace(0, 0) = 0; trace(31, 1) = NONE");
        String last = "the last one is that from which the copy is delivered, or where it is dropped or lost, or the one before"
            + " an arrival that occurred already";
        Bounds.test(24, last, FOUR_ENDS, "trace(8, 1) = NONE; trace(9, 1) = NONE; trace(10, 1) = NONE; trace(11, 1) = 5111",
            "trace(11, 2) = NONE; connect(5, 3, 5, 2) = 2; trace(8, 1) = NONE; trace(8, 0) = 5308; traceEnd(8) = 3");
        Bounds.test(24, last, counters(), "trace(0, 31) = 31; trace(0, 32) = 1200; trace(0, 63) = 1031; trace(0, 160) = 5200",
            "trace(0, 191) = 5031; trace(0, 192) = NONE; traceEnd(0) = 0; delivered(5, 3) = 1; connect(5, 3, 0, 2) = 12",
            "trace(0, 191) = 5031; trace(0, 192) = NONE; traceEnd(0) = 3; trace(0, 768) = NONE; trace(0, MAX) = NONE");
        Bounds.test(24, HEADER, FOUR_ENDS, "trace(8, 0) = 5308; trace(11, 0) = 5311; trace(<8..11>, 0) = BAD_VALUE",
            "trace(0, 0) = BAD_VALUE; inject(0, 0, 15, 0) = 1; trace(0, 0) = 0; trace(<0..0>, 0) = BAD_VALUE; reset(1) = 4",
            "trace(1, 0) = 1; trace(<0..1>, 0) = BAD_VALUE; reset(5) = 1; trace(<0..31>, 0) = BAD_VALUE");
        Bounds.test(24, "`k`: number of an arrival", FOUR_ENDS, "trace(11, 0) = 5311; trace(11, 1) = 5111; trace(11, 2) = NONE",
            "trace(11, MAX) = NONE; trace(11, <0..>) = BAD_VALUE");
        Bounds.test(24, "Returns 1000 * (box) + 100 * (port) + (header there)", "reset(5) = 4; connect(0, 3, 5, 3) = 1",
            "insertForward(0, 0, 1, 0, 0, 8) = 1; setRewriting(0, 0, 31, 31) = 1; trace(0, 0) = 0; trace(0, 1) = 5331",
            "setRewriting(0, 0, 31, 0) = 1; trace(31, 1) = 5300; inject(5, 3, 31, 31) = 1; trace(31, 0) = 5331");
        Bounds.test(24, "BAD_VALUE if the injection does not have this header, or k is negative", FOUR_ENDS,
            "trace(7, 0) = BAD_VALUE; trace(12, 0) = BAD_VALUE; trace(8, -1) = BAD_VALUE; trace(8, MIN) = BAD_VALUE",
            "trace(7, -1) = BAD_VALUE; trace(40, 0) = BAD_VALUE; trace(7, MAX) = BAD_VALUE");
        Bounds.test(24, "NONE if there are not so many arrivals", FOUR_ENDS, "trace(8, 1) = NONE; trace(9, 1) = NONE",
            "trace(10, 1) = NONE; trace(11, 2) = NONE; trace(8, MAX) = NONE; trace(11, MAX) = NONE");
    }

    private static void promise25() {
        Bounds.test(25, HEADER, FOUR_ENDS, "traceEnd(8) = 0; traceEnd(11) = 3; traceEnd(<8..11>) = BAD_VALUE",
            "traceEnd(0) = BAD_VALUE; traceEnd(15) = BAD_VALUE; reset(5) = 4; traceEnd(31) = 2; traceEnd(<0..31>) = BAD_VALUE",
            "reset(1) = 5; traceEnd(1) = 2; traceEnd(<0..1>) = BAD_VALUE");
        Bounds.test(25, "Returns how the packet that is followed by trace() ends: 0 delivered, 1 dropped, 2 lost, 3 in a loop",
            FOUR_ENDS, "traceEnd(8) = 0; traceEnd(9) = 1; traceEnd(10) = 2; traceEnd(11) = 3; disconnect(5, 1) = 0",
            "traceEnd(11) = 0; switchRule(5, 1, false) = 1; traceEnd(9) = 2; switchRule(5, 0, false) = 1; traceEnd(8) = 2");
        Bounds.test(25, "Returns how the packet that is followed by trace() ends: 0 delivered, 1 dropped, 2 lost, 3 in a loop",
            counters(), "traceEnd(0) = 0; connect(5, 3, 0, 2) = 12; traceEnd(0) = 3; removeRule(5, 5) = 5; traceEnd(0) = 2",
            "insertDrop(5, 5, 15, 0, 0) = 6; traceEnd(0) = 1");
        Bounds.test(25, "BAD_VALUE", FOUR_ENDS, "traceEnd(7) = BAD_VALUE; traceEnd(12) = BAD_VALUE; traceEnd(-1) = BAD_VALUE",
            "traceEnd(16) = BAD_VALUE; traceEnd(40) = BAD_VALUE; traceEnd(MIN) = BAD_VALUE; traceEnd(MAX) = BAD_VALUE");
    }

    private static void promise26() {
        Bounds.test(26, "Returns the headers of the injection for whose packets there is a loop: an arrival of this header from"
            + " which the same arrival follows again", FOUR_ENDS, "loops() = 2048; inject(5, 3, 15, 11) = 1; loops() = 2048",
            "inject(5, 3, 15, 8) = 1; loops() = 0; inject(5, 1, 0, 0) = 16; loops() = 2048; disconnect(5, 0) = 0; loops() = 0");
        Bounds.test(26, "Returns the headers of the injection for whose packets there is a loop: an arrival of this header from"
            + " which the same arrival follows again", counters(), "loops() = 0; connect(5, 3, 0, 2) = 12; loops() = 1",
            "inject(0, 2, 0, 0) = 32; loops() = 4294967295; removeRule(3, 5) = 5; loops() = 0");
        Bounds.test(26, "Returns the set of these headers", "loops() = 0; reset(5) = 4; connect(0, 0, 5, 3) = 1; loops() = 0",
            "insertForward(0, 0, 15, 0, 0, 1) = 1; loops() = 0; insertForward(5, 0, 15, 0, 0, 8) = 1; loops() = 4294967295",
            "inject(0, 0, 31, 31) = 1; loops() = 2147483648; inject(0, 0, 31, 0) = 1; loops() = 1; reset(1) = 5; loops() = 0");
    }

    private static void promise27() {
        String finds = "Finds a smallest set of rules, all of them on, which have to be switched off together so that nothing of"
            + " the injection is delivered at a place";
        Bounds.test(27, finds, "cutSize(0, 1) = 0; insertForward(0, 0, 1, 0, 0, 2) = 1; cutSize(0, 1) = 1",
            "switchRule(0, 0, false) = 1; cutSize(0, 1) = 0; cutRule(0, 1, 0) = NONE; insertForward(0, 1, 1, 15, 15, 2) = 2",
            "cutSize(0, 1) = 1; cutRule(0, 1, 0) = 1; inject(0, 0, 15, 0) = 1; cutSize(0, 1) = 0; inject(0, 0, 15, 15) = 1",
            "cutSize(0, 1) = 1; connect(0, 1, 1, 0) = 1; cutSize(0, 1) = 0; rule(0, 0, 6) = 0; rule(0, 1, 6) = 1; count(4) = 3");
        Bounds.test(27, finds, counters(), "cutSize(5, 3) = 1; cutRule(5, 3, 0) = 5; inject(0, 2, 0, 0) = 32",
            "cutSize(5, 3) = 1; cutRule(5, 3, 0) = 5; delivered(5, 3) = 1; connect(5, 3, 0, 2) = 12; cutSize(5, 3) = 0");
        // 31 headers go around for ever in box 0, while 0 is on its long way through box 5.
        Bounds.test(27, finds, "reset(5) = 4; connect(0, 1, 0, 0) = 1; connect(0, 3, 5, 2) = 2; inject(0, 2, 0, 0) = 32",
            "insertForward(0, 0, 15, 31, 0, 8) = 1; insertForward(0, 1, 15, 0, 0, 2) = 2", counter(5),
            "cutSize(5, 3) = 1; cutRule(5, 3, 0) = 0; loops() = 4294967294; distance(0, 5, 2) = 1; trace(0, 32) = 5031");
        Bounds.test(27, "Only sets of at most 3 rules are tried", "insertForward(0, 0, 1, 3, 0, 2) = 1; cutSize(0, 1) = 1",
            "insertForward(0, 1, 1, 3, 1, 2) = 2; cutSize(0, 1) = 2; insertForward(0, 2, 1, 3, 2, 2) = 3; cutSize(0, 1) = 3",
            "insertForward(0, 3, 1, 3, 3, 2) = 4; cutSize(0, 1) = NONE; insertForward(0, 4, 1, 0, 0, 2) = 5",
            "cutSize(0, 1) = NONE; cutRule(0, 1, 0) = NONE; connect(0, 1, 1, 0) = 1; insertForward(1, 0, 1, 0, 0, 8) = 1",
            "cutSize(1, 3) = 1; cutRule(1, 3, 0) = 10");
        Bounds.test(27, BOX, "cutSize(<0..5>, 1) = NO_SUCH_PLACE; insertForward(0, 0, 1, 0, 0, 2) = 1; cutSize(0, 1) = 1",
            "cutSize(5, 1) = 0; inject(5, 0, 0, 0) = 16; insertForward(5, 0, 1, 0, 0, 2) = 1; cutSize(5, 1) = 1",
            "cutSize(0, 1) = 0; cutSize(<0..5>, 1) = NO_SUCH_PLACE");
        Bounds.test(27, PORT, "insertForward(0, 0, 1, 0, 0, 9) = 1; cutSize(0, 0) = 1; cutSize(0, 3) = 1; cutSize(0, 1) = 0",
            "cutSize(0, <0..3>) = NO_SUCH_PLACE");
        Bounds.test(27, "Returns the size of the set, 0 to 3", "cutSize(0, 1) = 0", Setups.sixForwards(0), "cutSize(0, 1) = 3",
            "switchRule(0, 2, false) = 1; cutSize(0, 1) = 2; switchRule(0, 4, false) = 1; cutSize(0, 1) = 1",
            "switchRule(0, 0, false) = 1; cutSize(0, 1) = 0; cutSize(5, 3) = 0");
        Bounds.test(27, "NO_SUCH_PLACE", Setups.RICH, "cutSize(-1, 0) = NO_SUCH_PLACE; cutSize(6, 0) = NO_SUCH_PLACE",
            "cutSize(0, -1) = NO_SUCH_PLACE; cutSize(0, 4) = NO_SUCH_PLACE; cutSize(MAX, MIN) = NO_SUCH_PLACE");
        Bounds.test(27, "NONE if there is no such set", Setups.sixForwards(0), "switchRule(0, 5, false) = 1; cutSize(0, 1) = 3",
            "removeRule(0, 5) = 5; insertForward(0, 5, 15, 0, 0, 2) = 6; cutSize(0, 1) = NONE; cutSize(0, 1) = NONE",
            "cutSize(0, 2) = 0; inject(0, 3, 0, 0) = 16; cutSize(0, 1) = 1");
    }

    private static void promise27Order() {
        Bounds.test(27, "Rules are ordered by their boxes, then by their numbers",
            "connect(5, 1, 0, 0) = 1; inject(5, 0, 0, 0) = 16; insertForward(5, 0, 1, 0, 0, 2) = 1",
            "insertForward(0, 0, 14, 0, 0, 8) = 1; insertForward(0, 1, 1, 0, 0, 8) = 2; cutSize(0, 3) = 1",
            "cutRule(0, 3, 0) = 1; insertForward(0, 2, 1, 0, 0, 8) = 3; cutRule(0, 3, 0) = 50; cutSize(0, 3) = 1");
        // Each of two headers can be stopped by one of two rules, in box 0 or behind it.
        String two = "connect(0, 1, 5, 0) = 1; connect(0, 2, 4, 0) = 2; connect(4, 1, 5, 1) = 3; inject(0, 0, 14, 0) = 2;"
            + "insertForward(0, 0, 1, 1, 0, 2) = 1; insertForward(0, 1, 1, 1, 1, 4) = 2;"
            + "insertForward(4, 0, 1, 0, 0, 2) = 1; insertForward(5, 0, 1, 0, 0, 8) = 1; insertForward(5, 1, 2, 0, 0, 8) = 2;";
        Bounds.test(27, "sets of the same size are ordered by their first rules, then their second and third ones", two,
            "cutSize(5, 3) = 2; cutRule(5, 3, 0) = 0; cutRule(5, 3, 1) = 1; insertForward(0, 2, 1, 1, 1, 4) = 3",
            "cutSize(5, 3) = 2; cutRule(5, 3, 0) = 0; cutRule(5, 3, 1) = 40; insertForward(4, 1, 1, 0, 0, 2) = 2",
            "cutRule(5, 3, 1) = 51; insertForward(0, 3, 1, 1, 0, 2) = 4; cutSize(5, 3) = 2; cutRule(5, 3, 0) = 50",
            "cutRule(5, 3, 1) = 51; insertForward(5, 2, 2, 0, 0, 8) = 3; cutSize(5, 3) = 3; cutRule(5, 3, 0) = 1",
            "cutRule(5, 3, 1) = 2; cutRule(5, 3, 2) = 50");
        Bounds.test(27, "the first one is taken", "inject(5, 0, 0, 0) = 16", Setups.sixForwards(5), "cutSize(5, 1) = 3",
            "cutRule(5, 1, 0) = 50; cutRule(5, 1, 1) = 52; cutRule(5, 1, 2) = 54; inject(5, 1, 0, 0) = 16",
            "cutRule(5, 1, 0) = 51; cutRule(5, 1, 1) = 52; cutRule(5, 1, 2) = 55; cutRule(5, 1, 3) = NONE");
    }

    private static void promise28() {
        String one = "insertForward(0, 0, 1, 0, 0, 2) = 1;";
        Bounds.test(28, "Returns a rule of the set that cutSize() finds", one, "cutRule(0, 1, 0) = 0; cutSize(0, 1) = 1",
            "insertForward(0, 1, 1, 0, 0, 2) = 2; cutRule(0, 1, 0) = 0; cutRule(0, 1, 1) = 1; switchRule(0, 0, false) = 1",
            "cutRule(0, 1, 0) = 1; cutRule(0, 1, 1) = NONE; count(4) = 3; rule(0, 1, 6) = 1");
        Bounds.test(28, BOX, one, "cutRule(0, 1, 0) = 0; cutRule(5, 1, 0) = NONE; cutRule(<0..5>, 1, 0) = NO_SUCH_PLACE",
            "inject(5, 0, 0, 0) = 16; insertForward(5, 0, 1, 0, 0, 2) = 1; cutRule(5, 1, 0) = 50; cutRule(0, 1, 0) = NONE");
        Bounds.test(28, PORT, "insertForward(0, 0, 1, 0, 0, 9) = 1; cutRule(0, 0, 0) = 0; cutRule(0, 3, 0) = 0",
            "cutRule(0, 1, 0) = NONE; cutRule(0, <0..3>, 0) = NO_SUCH_PLACE");
        Bounds.test(28, "`k`: its place in the set, from 0", Setups.sixForwards(0), "cutRule(0, 1, 0) = 0; cutRule(0, 1, 2) = 4",
            "cutRule(0, 1, 3) = NONE; cutRule(0, 1, MAX) = NONE; cutRule(0, 1, <0..>) = BAD_VALUE");
        Bounds.test(28, "Returns 10 * (box) + (number of the rule)", one, "cutRule(0, 1, 0) = 0; inject(5, 1, 0, 0) = 16",
            Setups.sixForwards(5), "moveRule(5, 1, 4) = 1; cutRule(5, 1, 0) = 51; cutRule(5, 1, 1) = 54; cutRule(5, 1, 2) = 55");
        Bounds.test(28, "NO_SUCH_PLACE", Setups.RICH, "cutRule(-1, 0, 0) = NO_SUCH_PLACE; cutRule(6, 0, 0) = NO_SUCH_PLACE",
            "cutRule(0, -1, 0) = NO_SUCH_PLACE; cutRule(0, 4, 0) = NO_SUCH_PLACE; cutRule(6, 4, -1) = NO_SUCH_PLACE");
        Bounds.test(28, "BAD_VALUE if k is negative", one, "cutRule(0, 1, -1) = BAD_VALUE; cutRule(0, 1, MIN) = BAD_VALUE",
            "cutRule(0, 0, -1) = BAD_VALUE; cutRule(5, 3, MIN) = BAD_VALUE; cutRule(0, 1, 0) = 0");
        Bounds.test(28, "NONE if there is no set, or it has not so many rules", "cutRule(0, 1, 0) = NONE", one,
            "cutRule(0, 1, 1) = NONE; insertForward(0, 0, 1, 1, 1, 2) = 2; insertForward(0, 0, 1, 2, 2, 2) = 3",
            "cutRule(0, 1, 2) = 2; cutRule(0, 1, 3) = NONE; insertForward(0, 0, 1, 4, 4, 2) = 4; cutSize(0, 1) = NONE",
            "cutRule(0, 1, 0) = NONE; cutRule(0, 1, 2) = NONE; cutRule(0, 1, MAX) = NONE; cutRule(0, 1, -1) = BAD_VALUE");
    }
}
