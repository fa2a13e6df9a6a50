/** Promises 29 to 33: policies. */
public final class PoliciesTest {
    private static final String EIGHT =
        "addPolicy(true, 0, 0, 0, 1) = 0; addPolicy(true, 0, 0, 0, 1) = 1; addPolicy(true, 0, 0, 0, 1) = 2;"
        + "addPolicy(true, 0, 0, 0, 1) = 3; addPolicy(false, 0, 0, 0, 1) = 4; addPolicy(true, 0, 0, 0, 1) = 5;"
        + "addPolicy(true, 0, 0, 0, 1) = 6; addPolicy(true, 0, 0, 0, 1) = 7;";

    private PoliciesTest() {
    }

    public static void main(String[] args) {
        promise29();
        promise30();
        promise31();
        promise32();
        promise33();
        Script.end();
    }

    private static void promise29() {
        Script.run("29: for all headers",
            "addPolicy(true, 1, 0, 1, 1) = 0; addPolicy(false, 1, 0, 1, 1) = 1; count(3) = 2",
            "counterexamples(0) = 65535; counterexamples(1) = 0; insertForward(1, 0, 1, 0, 0, 2) = 1",
            "counterexamples(0) = 0; counterexamples(1) = 65535; count(4) = 1");
        Script.run("29: eight of them", EIGHT,
            "addPolicy(true, 0, 0, 0, 0) = FULL; count(3) = 8; addPolicy(true, 6, 0, 0, 0) = NO_SUCH_PLACE",
            "violated() = 239; clearPolicies() = 8; addPolicy(true, 0, 0, 0, 0) = 0");
        Script.run("29: a cube of before is not kept",
            "addPolicy(true, 0, 0, 0, 1) = 0; setPolicyCube(0, 15, 3) = 1; clearPolicies() = 1",
            "addPolicy(true, 0, 0, 0, 1) = 0; counterexamples(0) = 65535");
        Script.run("29: errors",
            "addPolicy(true, 6, 0, 0, 0) = NO_SUCH_PLACE; addPolicy(true, 0, 4, 0, 0) = NO_SUCH_PLACE",
            "addPolicy(true, 0, 0, 6, 0) = NO_SUCH_PLACE; addPolicy(true, 0, 0, 0, 4) = NO_SUCH_PLACE",
            "addPolicy(false, -1, 0, 0, 0) = NO_SUCH_PLACE; addPolicy(false, 0, -1, 0, 0) = NO_SUCH_PLACE",
            "addPolicy(false, 0, 0, -1, 0) = NO_SUCH_PLACE; addPolicy(false, 0, 0, 0, -1) = NO_SUCH_PLACE",
            "count(3) = 0");
    }

    private static void promise30() {
        Script.run("30: the number of headers",
            "addPolicy(true, 0, 0, 0, 1) = 0; addPolicy(true, 0, 0, 0, 1) = 1; setPolicyCube(1, 9, 15) = 4",
            "counterexamples(1) = 43520; counterexamples(0) = 65535; setPolicyCube(1, 0, 15) = 16",
            "setPolicyCube(0, 15, 0) = 1; counterexamples(0) = 1; counterexamples(1) = 65535");
        Script.run("30: errors change nothing",
            "setPolicyCube(0, 0, 0) = BAD_VALUE; addPolicy(true, 0, 0, 0, 1) = 0; setPolicyCube(1, 0, 0) = BAD_VALUE",
            "setPolicyCube(-1, 0, 0) = BAD_VALUE; setPolicyCube(8, 0, 0) = BAD_VALUE",
            "setPolicyCube(0, 16, 0) = BAD_VALUE; setPolicyCube(0, 0, 16) = BAD_VALUE",
            "setPolicyCube(0, -1, 0) = BAD_VALUE; setPolicyCube(0, 0, -1) = BAD_VALUE; counterexamples(0) = 65535",
            "clearPolicies() = 1; setPolicyCube(0, 0, 0) = BAD_VALUE");
    }

    private static void promise31() {
        // Headers with bit 3 go to box 1 and are delivered there as 0; the others are lost.
        String two = "connect(0, 1, 1, 0) = 1; insertForward(0, 0, 1, 8, 8, 2) = 1;"
            + "insertForward(1, 0, 1, 0, 0, 12) = 1; setRewriting(1, 0, 15, 0) = 1;";
        Script.run("31: headers as they come in, whatever the injection is", two,
            "inject(4, 0, 15, 0) = 1; addPolicy(true, 0, 0, 1, 3) = 0; addPolicy(false, 0, 0, 1, 3) = 1",
            "addPolicy(false, 1, 0, 1, 2) = 2; addPolicy(true, 0, 0, 0, 1) = 3; counterexamples(0) = 255",
            "counterexamples(1) = 65280; counterexamples(2) = 65535; counterexamples(3) = 65535",
            "setPolicyCube(0, 12, 8) = 4; counterexamples(0) = 0; setPolicyCube(1, 7, 1) = 2",
            "counterexamples(1) = 512; disconnect(0, 1) = 0; counterexamples(3) = 255; counterexamples(1) = 0");
        Script.run("31: any copy, and not around a loop for ever",
            "reset(2) = 4; connect(0, 1, 1, 0) = 1; insertForward(0, 0, 15, 0, 0, 2) = 1",
            "insertForward(1, 0, 15, 1, 1, 9) = 1; insertForward(1, 1, 15, 0, 0, 1) = 2",
            "addPolicy(true, 0, 0, 1, 3) = 0; addPolicy(false, 0, 0, 1, 3) = 1; counterexamples(0) = 5",
            "counterexamples(1) = 10");
        Script.run("31: one of two copies",
            "connect(0, 1, 1, 0) = 1; connect(0, 2, 2, 0) = 2; insertForward(0, 0, 1, 0, 0, 6) = 1",
            "insertForward(1, 0, 1, 8, 8, 8) = 1; insertForward(2, 0, 1, 0, 0, 8) = 1; addPolicy(true, 0, 0, 1, 3) = 0",
            "addPolicy(true, 0, 0, 2, 3) = 1; counterexamples(0) = 255; counterexamples(1) = 0; violated() = 1");
        Script.run("31: switched off rules", two, "addPolicy(false, 0, 0, 1, 3) = 0",
            "counterexamples(0) = 65280; switchRule(1, 0, false) = 1; counterexamples(0) = 0",
            "undo() = 3; counterexamples(0) = 65280");
        Script.run("31: delivery where it came in", "insertForward(0, 0, 1, 8, 8, 1) = 1",
            "addPolicy(true, 0, 0, 0, 0) = 0; counterexamples(0) = 255");
        Script.run("31: five bits", "reset(5) = 4; addPolicy(true, 0, 0, 0, 1) = 0; counterexamples(0) = 4294967295");
        Script.run("31: errors",
            "counterexamples(0) = NO_VALUE; counterexamples(-1) = NO_VALUE; addPolicy(true, 0, 0, 0, 1) = 0",
            "counterexamples(1) = NO_VALUE; counterexamples(2147483647) = NO_VALUE");
    }

    private static void promise32() {
        Script.run("32: the set", EIGHT, "violated() = 239; insertForward(0, 0, 1, 8, 8, 2) = 1; violated() = 255",
            "setPolicyCube(0, 8, 8) = 8; setPolicyCube(4, 8, 0) = 8; setPolicyCube(7, 12, 12) = 4; violated() = 110",
            "insertForward(0, 1, 1, 0, 0, 2) = 2; violated() = 16; undo() = 1; violated() = 110");
        Script.run("32: none", "violated() = 0; addPolicy(false, 0, 0, 0, 1) = 0; violated() = 0");
    }

    private static void promise33() {
        Script.run("33: all of them", EIGHT, "clearPolicies() = 8; clearPolicies() = 0; count(3) = 0; violated() = 0",
            "counterexamples(0) = NO_VALUE; setPolicyCube(0, 0, 0) = BAD_VALUE; count(4) = 0");
    }
}
