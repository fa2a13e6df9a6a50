/** The sentences before promise 1, each by a promise that shows it, and those behind promise 37. */
final class DescriptionBounds {
    private DescriptionBounds() {
    }

    static void run() {
        uses();
        headers();
        network();
        rules();
        actions();
        injection();
        policies();
        edits();
        errors();
        constants();
        notPromised();
    }

    private static void uses() {
        Bounds.ordinary(1, "An analyser for networks of filtering boxes");
        Bounds.ordinary(1, "Boxes have ordered rules that match headers by ternary cubes, drop packets, rewrite"
            + " headers and forward packets by ports");
        Bounds.ordinary(1, "The analyser finds which headers reach which places, with examples and cubes, where"
            + " packets are dropped, lost or delivered, loops, traces of packets, rules that can never match,"
            + " smallest sets of rules that have to be switched off to stop a delivery, and violated policies");
        Bounds.ordinary(1, "Rules can be given as texts, and edits of rules can be undone");
        String most = "An object is used for at most 512 calls after it has been made";
        Bounds.test(14, most, "511 * count(0) = 4; reset(5) = 4");
        Bounds.test(12, most, "insertDrop(0, 0, 1, 0, 0) = 1; 510 * moveRule(0, 0, 0) = 0; undo() = 11");
        Bounds.test(2, most, "255 * reset(5) = ?; 256 * reset(1) = ?; count(0) = 1");
        Bounds.test(34, most, "471 * clearText() = 0;" + Setups.typed(0, 40, 'x') + "type('x') = FULL");
        Bounds.ordinary(1, "what later calls answer is free");
    }

    private static void headers() {
        Bounds.test(2, "A header has b bits, 1 to 5",
            "reset(1) = 4; arriving(0, 0) = 3; reset(2) = 1; arriving(0, 0) = 15; reset(3) = 2",
            "arriving(0, 0) = 255; reset(4) = 3; arriving(0, 0) = 65535; reset(5) = 4",
            "arriving(0, 0) = 4294967295; reset(<1..5>) = BAD_VALUE; count(0) = 5; reset(1) = 5",
            "reset(<1..5>) = BAD_VALUE; count(0) = 1; arriving(0, 0) = 3");
        for (int bits = 1; bits <= 5; bits++) {
            int last = (1 << bits) - 1;
            Bounds.test(22, "it is an int from 0 to 2^b - 1",
                "reset(" + bits + ") = 4; origin(0, 0, 0) = 0; origin(0, 0, " + last + ") = " + last,
                "origin(0, 0, <0.." + last + ">) = BAD_VALUE");
            Bounds.test(16, "A cube is given by two ints, care and value, both from 0 to 2^b - 1: a header h is in"
                + " it if h and value are equal in all bits of care",
                "reset(" + bits + ") = 4; inject(0, 0, " + last + ", " + last + ") = 1",
                "arriving(0, 0) = " + (1L << last) + "; inject(0, 0, " + last + ", 0) = 1; arriving(0, 0) = 1",
                "inject(0, 0, 0, " + last + ") = " + (last + 1) + "; inject(0, 0, 0, 0) = " + (last + 1),
                "inject(0, 0, <0.." + last + ">, 0) = BAD_VALUE; inject(0, 0, 0, <0.." + last + ">) = BAD_VALUE",
                "arriving(0, 0) = " + ((1L << last + 1) - 1));
        }
        Bounds.test(17, "A set of headers is a long whose bit h tells whether header h is in it",
            "reset(5) = 4; inject(0, 0, 31, 31) = 1; arriving(0, 0) = 2147483648; inject(0, 0, 31, 0) = 1",
            "arriving(0, 0) = 1; inject(0, 0, 0, 0) = 32; arriving(0, 0) = 4294967295; reset(1) = 5",
            "inject(0, 0, 1, 1) = 1; arriving(0, 0) = 2; inject(0, 0, 1, 0) = 1; arriving(0, 0) = 1");
        Bounds.test(16, "(Bits of value that are not in care do not matter.)",
            "inject(0, 0, 0, 15) = 16; arriving(0, 0) = 65535; inject(0, 0, 8, 15) = 8; arriving(0, 0) = 65280",
            "inject(0, 0, 7, 15) = 2; arriving(0, 0) = 32896; inject(0, 0, 7, 7) = 2; arriving(0, 0) = 32896");
    }

    private static void network() {
        Bounds.test(5, "There are 6 boxes, numbered from 0",
            "other(0, 0) = NONE; other(5, 0) = NONE; connect(0, 0, 5, 0) = 1; other(0, 0) = 50; other(5, 0) = 0",
            "other(<0..5>, 0) = NO_SUCH_PLACE");
        Bounds.test(5, "each has 4 ports, numbered from 0",
            "other(0, 0) = NONE; other(0, 3) = NONE; connect(0, 0, 0, 3) = 1; other(0, 0) = 3; other(0, 3) = 0",
            "other(0, <0..3>) = NO_SUCH_PLACE; other(5, <0..3>) = NO_SUCH_PLACE");
        Bounds.test(5, "A place is a box and a port",
            "connect(1, 0, 2, 3) = 1; other(1, 0) = 23; other(2, 3) = 10; other(0, 4) = NO_SUCH_PLACE",
            "other(3, -1) = NO_SUCH_PLACE; other(2, -4) = NO_SUCH_PLACE; other(0, 10) = NO_SUCH_PLACE",
            "other(2, 0) = NONE; other(1, 3) = NONE");
        Bounds.test(3, "A link connects two different places in both directions",
            "connect(0, 0, 0, 0) = NOT_POSSIBLE; connect(5, 3, 5, 3) = NOT_POSSIBLE; connect(0, 0, 0, 1) = 1",
            "connect(5, 3, 5, 2) = 2; connect(1, 3, 2, 3) = 3; other(0, 0) = 1; other(0, 1) = 0; other(5, 3) = 52",
            "other(5, 2) = 53; insertForward(0, 0, 1, 0, 0, 2) = 1; arriving(0, 0) = 65535; arriving(0, 1) = 0",
            "insertForward(0, 0, 1, 0, 0, 1) = 2; arriving(0, 1) = 65535; inject(0, 1, 0, 0) = 16",
            "insertForward(0, 0, 2, 0, 0, 2) = 3; arriving(0, 0) = 65535");
        Bounds.test(3, "a place has at most one link",
            "connect(0, 0, 5, 3) = 1; connect(0, 0, 5, 3) = NOT_POSSIBLE; connect(5, 3, 0, 0) = NOT_POSSIBLE",
            "connect(0, 0, 1, 1) = NOT_POSSIBLE; connect(1, 1, 0, 0) = NOT_POSSIBLE",
            "connect(5, 3, 1, 1) = NOT_POSSIBLE; connect(1, 1, 5, 3) = NOT_POSSIBLE; count(1) = 1",
            "disconnect(0, 0) = 0; connect(0, 0, 1, 1) = 1; connect(5, 3, 1, 2) = 2");
        Bounds.test(13, "Sets of ports are ints from 0 to 15",
            "insertForward(0, 0, 15, 0, 0, 15) = 1; rule(0, 0, 0) = 15; rule(0, 0, 3) = 15",
            "insertForward(0, 0, 1, 0, 0, 1) = 2; rule(0, 0, 0) = 1; rule(0, 0, 3) = 1; insertDrop(0, 0, 8, 0, 0) = 3",
            "rule(0, 0, 0) = 8; rule(0, 0, 3) = 0; insertDrop(0, 0, 16, 0, 0) = BAD_VALUE",
            "insertForward(0, 0, 1, 0, 0, 16) = BAD_VALUE; insertForward(0, 0, 16, 0, 0, 1) = BAD_VALUE");
    }

    private static void rules() {
        Bounds.test(6, "Each box has a list of up to 6 rules, numbered from 0", Setups.sixRules(0),
            "count(2) = 6; insertDrop(0, 6, 1, 0, 0) = FULL; insertForward(0, 0, 1, 0, 0, 1) = FULL",
            "text(0:****!); readRule(0) = FULL; rule(0, 0, 0) = 1; rule(0, 5, 0) = 6; rule(0, <0..5>, 0) = NO_SUCH_RULE",
            Setups.sixRules(5), "count(2) = 12; rule(5, 5, 0) = 6; rule(4, 0, 0) = NO_SUCH_RULE");
        Bounds.test(6, "A rule has a set of ports (not empty), a cube, and an action",
            "insertDrop(0, 0, 0, 0, 0) = BAD_VALUE; insertForward(0, 0, 0, 0, 0, 1) = BAD_VALUE",
            "insertDrop(0, 0, 1, 0, 0) = 1; text(:****!); readRule(0) = -100");
        Bounds.test(20, "A packet that comes to a box at a port is handled by the first rule of the box that is"
            + " switched on, whose set of ports contains this port, and whose cube contains the header",
            "insertDrop(0, 0, 1, 0, 0) = 1; switchRule(0, 0, false) = 1; insertDrop(0, 1, 14, 0, 0) = 2",
            "insertDrop(0, 2, 1, 15, 0) = 3; insertDrop(0, 3, 1, 15, 15) = 4; insertDrop(0, 4, 15, 0, 0) = 5",
            "insertDrop(0, 5, 15, 0, 0) = 6; hits(0, 0) = 0; hits(0, 1) = 0; hits(0, 2) = 1; hits(0, 3) = 1",
            "hits(0, 4) = 14; hits(0, 5) = 0; inject(0, 3, 0, 0) = 16; hits(0, 1) = 16; hits(0, 4) = 0");
    }

    private static void actions() {
        Bounds.test(8, "The action is to drop the packet, or to rewrite its header and to forward it: a rewriting is"
            + " given by two ints, change and to, like a cube: the bits of change get the values that they have in to",
            "insertForward(0, 0, 1, 0, 0, 2) = 1; setRewriting(0, 0, 15, 15) = 1; delivered(0, 1) = 32768",
            "setRewriting(0, 0, 15, 0) = 1; delivered(0, 1) = 1; setRewriting(0, 0, 0, 15) = 1",
            "delivered(0, 1) = 65535; setRewriting(0, 0, <0..15>, 0) = BAD_VALUE",
            "setRewriting(0, 0, 0, <0..15>) = BAD_VALUE; delivered(0, 1) = 65535");
        Bounds.test(7, "One copy of the packet goes out at each port of another set of ports (not empty), the output"
            + " ports", "insertForward(0, 0, 1, 0, 0, 0) = BAD_VALUE; insertForward(0, 0, 1, 0, 0, 15) = 1",
            "delivered(0, 0) = 65535; delivered(0, 1) = 65535; delivered(0, 2) = 65535; delivered(0, 3) = 65535",
            "insertForward(0, 0, 1, 0, 0, 8) = 2; delivered(0, 3) = 65535; delivered(0, 0) = 0; delivered(0, 2) = 0");
        Bounds.test(7, "it may go out where it came in",
            "inject(5, 3, 0, 0) = 16; insertForward(5, 0, 8, 0, 0, 8) = 1; delivered(5, 3) = 65535",
            "connect(5, 3, 0, 0) = 1; delivered(5, 3) = 0; arriving(0, 0) = 65535",
            "insertForward(0, 0, 1, 0, 0, 1) = 1; arriving(5, 3) = 65535; loops() = 65535");
        Bounds.test(18, "A copy that goes out at a place with a link comes to the place at the other end",
            "insertForward(0, 0, 1, 0, 0, 15) = 1; connect(0, 0, 5, 3) = 1; connect(0, 1, 0, 2) = 2",
            "arriving(5, 3) = 65535; delivered(0, 0) = 0; delivered(5, 3) = 0; arriving(0, 1) = 65535",
            "arriving(0, 2) = 65535; delivered(0, 1) = 0; delivered(0, 2) = 0; delivered(0, 3) = 65535");
        Bounds.test(18, "one that goes out at a place without a link is delivered at this place",
            "insertForward(0, 0, 1, 15, 15, 9) = 1; delivered(0, 0) = 32768; delivered(0, 3) = 32768",
            "connect(0, 3, 5, 0) = 1; delivered(0, 3) = 0; delivered(5, 0) = 0; insertForward(5, 0, 15, 0, 0, 8) = 1",
            "delivered(5, 3) = 32768; disconnect(5, 0) = 0; delivered(0, 3) = 32768; delivered(5, 3) = 0");
        Bounds.test(19, "If no rule handles a packet, it is lost",
            "arrivals(0, 2) = 16; insertDrop(0, 0, 14, 0, 0) = 1; arrivals(0, 2) = 16",
            "insertDrop(0, 0, 1, 15, 15) = 2; arrivals(0, 2) = 15; insertDrop(0, 0, 1, 0, 0) = 3; arrivals(0, 2) = 0",
            "switchRule(0, 0, false) = 1; arrivals(0, 2) = 15; traceEnd(0) = 2; traceEnd(15) = 1");
    }

    private static void injection() {
        Bounds.test(16, "There is an injection: a place and a cube",
            "inject(5, 3, 15, 15) = 1; arriving(5, 3) = 32768; arriving(0, 0) = 0; inject(0, 0, 0, 0) = 16",
            "arriving(5, 3) = 0; arriving(0, 0) = 65535");
        Bounds.test(16, "The packets of the injection come to this place, one for each header of the cube",
            "inject(2, 2, 0, 0) = 16; arrivals(2, 0) = 16; inject(2, 2, 15, 7) = 1; arrivals(2, 0) = 1",
            "reset(5) = 4; inject(2, 2, 0, 0) = 32; arrivals(2, 0) = 32; reset(1) = 5; inject(2, 2, 0, 0) = 2",
            "arrivals(2, 0) = 2; inject(2, 2, 1, 1) = 1; arrivals(2, 0) = 1");
        Bounds.test(19, "An arrival is a place and a header",
            "connect(0, 1, 0, 2) = 1; insertForward(0, 0, 1, 0, 0, 2) = 1; arrivals(0, 0) = 32",
            "setRewriting(0, 0, 15, 0) = 1; arrivals(0, 0) = 17");
        Bounds.test(19, "The arrivals are those of the packets of the injection and those of all copies that follow"
            + " from them", "reset(5) = 4", Setups.ALL_LINKS, "arrivals(0, 0) = 32; arrivals(1, 0) = 0",
            "insertForward(0, 0, 15, 0, 0, 15) = 1; insertForward(1, 0, 15, 0, 0, 15) = 1",
            "insertForward(2, 0, 15, 0, 0, 15) = 1; insertForward(3, 0, 15, 0, 0, 15) = 1",
            "insertForward(4, 0, 15, 0, 0, 15) = 1; insertForward(5, 0, 15, 0, 0, 15) = 1",
            "arrivals(0, 0) = 128; arrivals(1, 0) = 128; arrivals(2, 0) = 128; arrivals(3, 0) = 128",
            "arrivals(4, 0) = 128; arrivals(5, 0) = 128; arriving(5, 3) = 4294967295; loops() = 4294967295");
        Bounds.test(19, "(A packet that would run around in a loop gives its arrivals once.)",
            "connect(0, 0, 0, 1) = 1; insertForward(0, 0, 15, 0, 0, 3) = 1; arrivals(0, 0) = 32; hits(0, 0) = 32",
            "arriving(0, 0) = 65535; inject(0, 0, 15, 15) = 1; arrivals(0, 0) = 2; hits(0, 0) = 2; loops() = 32768");
        Bounds.test(19, "Dropped, lost: the arrivals whose packets are dropped, or lost",
            "arrivals(0, 1) = 0; arrivals(0, 2) = 16; insertDrop(0, 0, 15, 0, 0) = 1; arrivals(0, 1) = 16",
            "arrivals(0, 2) = 0; insertForward(0, 0, 15, 0, 0, 15) = 2; arrivals(0, 1) = 0; arrivals(0, 2) = 0");
        Bounds.test(26, "The arrivals of one header are those that there would be if the injection had this header alone",
            "connect(0, 1, 0, 2) = 1; insertForward(0, 0, 15, 15, 15, 2) = 1; loops() = 32768",
            "distance(0, 0, 2) = NONE; distance(15, 0, 2) = 1; inject(0, 0, 8, 0) = 8; loops() = 0");
    }

    private static void policies() {
        Bounds.test(29, "There are up to 8 policies, numbered from 0", "counterexamples(0) = NO_VALUE",
            Setups.eightPolicies(), "addPolicy(true, 0, 0, 0, 0) = FULL; count(3) = 8; counterexamples(0) = 65535",
            "counterexamples(7) = 65535; counterexamples(<0..7>) = NO_VALUE; violated() = 255");
        Bounds.test(31, "A policy has a place where packets come in, a cube of their headers, a place of delivery, and"
            + " a kind: 0 never (no packet that comes in there with a header of the cube may have a copy that is"
            + " delivered there), or 1 always (each of them must have one)",
            "addPolicy(false, 5, 3, 5, 0) = 0; addPolicy(true, 5, 3, 5, 0) = 1; counterexamples(0) = 0",
            "counterexamples(1) = 65535; insertForward(5, 0, 8, 15, 15, 15) = 1; counterexamples(0) = 32768",
            "counterexamples(1) = 32767; setPolicyCube(0, 15, 14) = 1; setPolicyCube(1, 15, 15) = 1; violated() = 0",
            "setPolicyCube(0, 15, 15) = 1; setPolicyCube(1, 15, 0) = 1; counterexamples(0) = 32768",
            "counterexamples(1) = 1; violated() = 3");
        Bounds.test(31, "A header of the cube for which that is not so is a counterexample",
            "addPolicy(true, 0, 0, 0, 1) = 0; setPolicyCube(0, 15, 15) = 1; counterexamples(0) = 32768",
            "setPolicyCube(0, 15, 0) = 1; counterexamples(0) = 1; insertForward(0, 0, 1, 0, 0, 2) = 1",
            "counterexamples(0) = 0; reset(5) = 4; addPolicy(true, 0, 0, 0, 1) = 0",
            "counterexamples(0) = 4294967295");
        Bounds.test(31, "Policies do not depend on the injection",
            "addPolicy(true, 0, 0, 0, 1) = 0; insertForward(0, 0, 1, 8, 8, 2) = 1; counterexamples(0) = 255",
            "inject(5, 3, 15, 15) = 1; counterexamples(0) = 255; violated() = 1; inject(0, 0, 8, 8) = 8",
            "counterexamples(0) = 255; violated() = 1");
    }

    private static void edits() {
        Bounds.test(12, "The methods that say so are edits, if they report no error",
            "reset(4) = 4; connect(0, 1, 1, 0) = 1; disconnect(1, 0) = 0; inject(0, 0, 0, 0) = 16",
            "addPolicy(true, 0, 0, 0, 1) = 0; setPolicyCube(0, 0, 0) = 16; clearPolicies() = 1; type('x') = 1",
            "clearText() = 1; count(4) = 0; insertDrop(0, 0, 1, 0, 0) = 1; count(4) = 1",
            "insertForward(0, 0, 1, 0, 0, 1) = 2; count(4) = 2; setRewriting(0, 0, 0, 0) = 0; count(4) = 3",
            "moveRule(0, 1, 1) = 0; count(4) = 4; switchRule(0, 0, true) = 0; count(4) = 5; text(0:****!)",
            "readRule(0) = 3; count(4) = 6; removeRule(0, 0) = 2; count(4) = 7; insertDrop(0, 3, 1, 0, 0) = BAD_VALUE",
            "insertForward(0, 3, 1, 0, 0, 1) = BAD_VALUE; setRewriting(0, 0, 1, 1) = NOT_POSSIBLE",
            "moveRule(0, 0, 2) = NO_SUCH_RULE; switchRule(0, 2, true) = NO_SUCH_RULE; readRule(6) = NO_SUCH_PLACE",
            "removeRule(0, 2) = NO_SUCH_RULE; count(4) = 7");
        Bounds.test(12, "A history of at most 12 edits is kept",
            Setups.sixRules(0), "switchRule(0, 0, false) = 1; switchRule(0, 1, false) = 1",
            "switchRule(0, 2, false) = 1; switchRule(0, 3, false) = 1; switchRule(0, 4, false) = 1; count(4) = 11",
            "switchRule(0, 5, false) = 1; count(4) = 12; removeRule(0, 0) = 5; count(4) = 12; undo() = 11",
            "10 * undo() = ?; undo() = 0; undo() = NONE; count(2) = 1; rule(0, 0, 6) = 1");
        Bounds.test(12, "when one more is carried out, the oldest one is dropped",
            Setups.sixRules(0), Setups.sixRules(1), "count(4) = 12; insertDrop(2, 0, 9, 0, 0) = 1; count(4) = 12",
            "undo() = 11; count(2) = 12; 11 * undo() = ?; undo() = NONE; count(2) = 1; rule(0, 0, 0) = 1",
            Setups.sixRules(3), Setups.sixRules(4), "insertDrop(5, 0, 7, 0, 0) = 1; insertDrop(5, 0, 9, 0, 0) = 2",
            "count(4) = 12; 11 * undo() = ?; undo() = 0; undo() = NONE; count(2) = 3; rule(3, 1, 0) = 2");
        Bounds.test(12, "undo() takes the latest one out of it: the rules of all boxes (with what is switched off)"
            + " become what they were before it",
            "undo() = NONE; insertForward(0, 0, 1, 0, 0, 2) = 1; insertDrop(5, 0, 8, 15, 15) = 1",
            "switchRule(5, 0, false) = 1; setRewriting(0, 0, 15, 7) = 1; removeRule(5, 0) = 0; undo() = 4",
            "rule(5, 0, 6) = 0; rule(5, 0, 1) = 15; undo() = 3; rule(0, 0, 4) = 0; rule(0, 0, 5) = 0; undo() = 2",
            "rule(5, 0, 6) = 1; undo() = 1; rule(5, 0, 0) = NO_SUCH_RULE; rule(0, 0, 3) = 2; undo() = 0",
            "count(2) = 0; undo() = NONE; undo() = NONE");
    }

    private static void errors() {
        Bounds.test(1, "Errors are reported by the constants below",
            "other(6, 0) = NO_SUCH_PLACE; rule(0, 0, 0) = NO_SUCH_RULE; reset(0) = BAD_VALUE",
            "connect(0, 0, 0, 0) = NOT_POSSIBLE", Setups.sixRules(0), "insertDrop(0, 0, 1, 0, 0) = FULL",
            "arriving(6, 0) = NO_VALUE");
        ErrorOrder.byHand("Where several errors can apply, the order of the @return line is the order of the checks");
        Bounds.test(31, "Methods that return a long return NO_VALUE for every error",
            "arriving(<0..5>, 0) = NO_VALUE; arriving(0, <0..3>) = NO_VALUE; delivered(<0..5>, 0) = NO_VALUE",
            "delivered(0, <0..3>) = NO_VALUE; counterexamples(<0..>) = NO_VALUE; counterexamples(0) = NO_VALUE",
            "addPolicy(true, 0, 0, 0, 0) = 0; counterexamples(0) = 65535; counterexamples(<0..0>) = NO_VALUE",
            "loops() = 0");
        Bounds.test(12, "NONE is returned only if no error applies", "insertDrop(0, 0, 1, 0, 0) = 1",
            "disconnect(6, 0) = NO_SUCH_PLACE; disconnect(0, 4) = NO_SUCH_PLACE; other(0, -1) = NO_SUCH_PLACE",
            "cube(6, 0, 99, 0) = NO_SUCH_PLACE; cube(1, 0, 99, 2) = BAD_VALUE; origin(6, 0, 0) = NO_SUCH_PLACE",
            "origin(1, 0, 16) = BAD_VALUE; distance(16, 1, 0) = BAD_VALUE; distance(0, 1, 4) = NO_SUCH_PLACE",
            "trace(16, 99) = BAD_VALUE; cutRule(6, 0, 99) = NO_SUCH_PLACE; cutRule(0, 0, -1) = BAD_VALUE",
            "cutSize(0, 4) = NO_SUCH_PLACE; ruleText(6, 0, 99) = NO_SUCH_PLACE; ruleText(0, 1, 99) = NO_SUCH_RULE",
            "ruleText(0, 0, -1) = BAD_VALUE");
        String nothing = "A call that reports an error changes nothing";
        for (String calls : ErrorOrder.REFUSED) {
            Bounds.test(1, nothing, Setups.RICH, calls);
        }
        Bounds.test(1, nothing, Setups.RICH, Setups.sixRules(3), "readRule(3) = FULL; insertDrop(3, 0, 1, 0, 0) = FULL",
            "insertForward(3, 6, 1, 0, 0, 1) = FULL; insertDrop(3, 7, 1, 0, 0) = BAD_VALUE; type('x') = 16",
            "readRule(3) = -115; readRule(0) = -115;" + Setups.typed(16, 40, '!') + "type('0') = FULL",
            "addPolicy(true, 4, 1, 4, 2) = 2; addPolicy(true, 4, 1, 4, 2) = 3; addPolicy(true, 4, 1, 4, 2) = 4",
            "addPolicy(false, 4, 1, 4, 2) = 5; addPolicy(true, 4, 1, 4, 2) = 6; addPolicy(true, 4, 1, 4, 2) = 7",
            "addPolicy(true, 0, 0, 5, 3) = FULL; addPolicy(false, 0, 0, 5, 3) = FULL",
            "addPolicy(false, 0, 0, 5, 4) = NO_SUCH_PLACE");
    }

    private static void constants() {
        Bounds.test(5, "`NO_SUCH_PLACE = -1`: There is no such box or port",
            "other(5, 3) = NONE; other(6, 3) = -1; other(5, 4) = -1");
        Bounds.test(9, "`NO_SUCH_RULE = -2`: The box has no such rule",
            "removeRule(0, 0) = -2; insertDrop(0, 0, 1, 0, 0) = 1; removeRule(0, 1) = -2; removeRule(1, 0) = -2");
        Bounds.test(14, "`BAD_VALUE = -3`: Another argument is out of range", "count(4) = 0; count(5) = -3; count(-1) = -3");
        Bounds.test(3, "`NOT_POSSIBLE = -4`: A place has a link already, or both places are the same",
            "connect(1, 1, 1, 1) = -4; connect(1, 1, 2, 2) = 1; connect(1, 1, 3, 3) = -4; connect(3, 3, 2, 2) = -4");
        Bounds.test(6, "`FULL = -5`: There is no more room", Setups.sixRules(2), "insertDrop(2, 6, 1, 0, 0) = -5");
        Bounds.test(12, "`NONE = -6`: There is no such thing", "undo() = -6; other(0, 0) = -6");
        Bounds.test(12, "not an error", "undo() = -6; insertDrop(0, 0, 1, 0, 0) = 1; undo() = 0; undo() = -6");
        Bounds.test(17, "`NO_VALUE = Long.MIN_VALUE`: The error value of methods that return a long",
            "arriving(6, 0) = -9223372036854775808; delivered(0, 4) = -9223372036854775808",
            "counterexamples(0) = -9223372036854775808");
        Bounds.ordinary(1, "The constructor and the methods follow, a promise each: the signature, then what it does");
    }
    private static void notPromised() {
        Bounds.ordinary(1, "How the state is held inside the object is free, as are the speed of each call, the text of"
            + " toString and the behaviour of equals and hashCode");
        Bounds.ordinary(1, "Use of one object from several threads at once is not promised to be safe");
        Bounds.test(2, "Nothing is promised beyond the answers and state changes described above, and nothing about an object"
            + " after its 512th call", "inject(0, 0, 15, 3) = 1; 509 * arriving(0, 0) = 8; reset(5) = 4; reset(5) = 5");
    }
}
