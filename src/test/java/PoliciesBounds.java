/** The sentences of promises 29 to 33: policies. */
final class PoliciesBounds {
    private PoliciesBounds() {
    }

    static void run() {
        promise29();
        promise30();
        promise31();
        promise32();
        promise33();
    }

    private static void promise29() {
        Bounds.test(29, "Adds a policy for all headers", "addPolicy(true, 0, 0, 0, 1) = 0; counterexamples(0) = 65535",
            "reset(5) = 4; addPolicy(true, 0, 0, 0, 1) = 0; counterexamples(0) = 4294967295; reset(1) = 5",
            "addPolicy(true, 0, 0, 0, 1) = 0; counterexamples(0) = 3; setPolicyCube(0, 1, 1) = 1; clearPolicies() = 1",
            "addPolicy(true, 0, 0, 0, 1) = 0; counterexamples(0) = 3");
        Bounds.test(29, "`always`: true for the kind always, false for never",
            "addPolicy(true, 0, 0, 0, 1) = 0; addPolicy(false, 0, 0, 0, 1) = 1; counterexamples(0) = 65535",
            "counterexamples(1) = 0; insertForward(0, 0, 1, 0, 0, 2) = 1; counterexamples(0) = 0; counterexamples(1) = 65535");
        Bounds.test(29, "`box`: box where packets come in", "addPolicy(true, <0..5>, 0, 0, 0) = NO_SUCH_PLACE",
            "addPolicy(true, 0, 0, 0, 1) = 0; addPolicy(true, 5, 0, 5, 1) = 1; insertForward(5, 0, 1, 0, 0, 2) = 1",
            "violated() = 1; insertForward(0, 0, 1, 0, 0, 2) = 1; violated() = 0");
        Bounds.test(29, "`port`: port where packets come in", "addPolicy(true, 0, <0..3>, 0, 0) = NO_SUCH_PLACE",
            "addPolicy(true, 0, 0, 0, 1) = 0; addPolicy(true, 0, 3, 0, 1) = 1; insertForward(0, 0, 8, 0, 0, 2) = 1",
            "violated() = 1; insertForward(0, 0, 1, 0, 0, 2) = 2; violated() = 0");
        Bounds.test(29, "`toBox`: box of delivery", "addPolicy(false, 0, 0, <0..5>, 0) = NO_SUCH_PLACE",
            "connect(0, 3, 5, 0) = 1; addPolicy(false, 0, 0, 0, 1) = 0; addPolicy(false, 0, 0, 5, 1) = 1",
            "insertForward(0, 0, 1, 0, 0, 8) = 1; insertForward(5, 0, 1, 0, 0, 2) = 1; violated() = 2");
        Bounds.test(29, "`toPort`: port of delivery", "addPolicy(false, 0, 0, 0, <0..3>) = NO_SUCH_PLACE",
            "addPolicy(false, 0, 1, 0, 0) = 0; addPolicy(false, 0, 1, 0, 3) = 1; insertForward(0, 0, 2, 0, 0, 8) = 1",
            "violated() = 2; insertForward(0, 0, 2, 0, 0, 1) = 2; violated() = 1");
        Bounds.test(29, "Returns the number of the policy", "addPolicy(true, 0, 0, 0, 1) = 0; addPolicy(true, 0, 0, 0, 1) = 1",
            "clearPolicies() = 2; addPolicy(true, 0, 0, 0, 1) = 0; reset(4) = 4", Setups.eightPolicies(),
            "counterexamples(7) = 65535; clearPolicies() = 8", Setups.eightPolicies());
        Bounds.test(29, "NO_SUCH_PLACE", Setups.RICH, "addPolicy(true, -1, 0, 0, 0) = NO_SUCH_PLACE",
            "addPolicy(true, 6, 0, 0, 0) = NO_SUCH_PLACE; addPolicy(false, 0, -1, 0, 0) = NO_SUCH_PLACE",
            "addPolicy(false, 0, 4, 0, 0) = NO_SUCH_PLACE; addPolicy(false, 0, 0, 6, 0) = NO_SUCH_PLACE",
            "addPolicy(true, 0, 0, 0, 4) = NO_SUCH_PLACE; addPolicy(true, MIN, MAX, MIN, MAX) = NO_SUCH_PLACE; count(3) = 2");
        Bounds.test(29, "FULL if there are 8 policies", Setups.eightPolicies(), "addPolicy(false, 1, 1, 2, 2) = FULL",
            "addPolicy(true, 0, 0, 0, 1) = FULL; setPolicyCube(7, 15, 15) = 1; addPolicy(true, 0, 0, 0, 1) = FULL",
            "counterexamples(7) = 32768; count(3) = 8; addPolicy(true, 0, 0, 0, 4) = NO_SUCH_PLACE; clearPolicies() = 8",
            "addPolicy(false, 1, 1, 2, 2) = 0; reset(4) = 4; addPolicy(false, 1, 1, 2, 2) = 0");
    }

    private static void promise30() {
        Bounds.test(30, "Sets the cube of a policy", "addPolicy(true, 0, 0, 0, 1) = 0; addPolicy(true, 0, 0, 0, 1) = 1",
            "setPolicyCube(1, 15, 15) = 1; counterexamples(1) = 32768; counterexamples(0) = 65535; setPolicyCube(0, 15, 0) = 1",
            "counterexamples(0) = 1; setPolicyCube(1, 0, 15) = 16; counterexamples(1) = 65535; count(4) = 0");
        Bounds.test(30, "`policy`: number of a policy", "setPolicyCube(<0..>, 0, 0) = BAD_VALUE; setPolicyCube(0, 0, 0) = BAD_VALUE",
            "addPolicy(true, 0, 0, 0, 1) = 0; setPolicyCube(0, 15, 3) = 1; setPolicyCube(<0..0>, 0, 0) = BAD_VALUE",
            "clearPolicies() = 1; setPolicyCube(0, 0, 0) = BAD_VALUE", Setups.eightPolicies(), "setPolicyCube(7, 15, 3) = 1",
            "setPolicyCube(0, 15, 3) = 1; setPolicyCube(<0..7>, 0, 0) = BAD_VALUE; counterexamples(7) = 8");
        for (int bits = 1; bits <= 5; bits++) {
            int last = (1 << bits) - 1;
            String one = "reset(" + bits + ") = 4; addPolicy(true, 0, 0, 0, 1) = 0;";
            Bounds.test(30, "`care`: of its cube", one, "setPolicyCube(0, <0.." + last + ">, 0) = BAD_VALUE",
                "setPolicyCube(0, " + last + ", 0) = 1; counterexamples(0) = 1; setPolicyCube(0, 0, 0) = " + (last + 1));
            Bounds.test(30, "`value`: of its cube", one, "setPolicyCube(0, " + last + ", <0.." + last + ">) = BAD_VALUE",
                "setPolicyCube(0, 0, <0.." + last + ">) = BAD_VALUE; setPolicyCube(0, " + last + ", " + last + ") = 1",
                "counterexamples(0) = " + (1L << last) + "; setPolicyCube(0, 0, " + last + ") = " + (last + 1));
        }
        Bounds.test(30, "Returns the number of headers of the cube", "addPolicy(true, 0, 0, 0, 1) = 0; setPolicyCube(0, 15, 9) = 1",
            "setPolicyCube(0, 7, 9) = 2; setPolicyCube(0, 3, 9) = 4; setPolicyCube(0, 1, 9) = 8; setPolicyCube(0, 0, 9) = 16",
            "reset(5) = 4; addPolicy(true, 0, 0, 0, 1) = 0; setPolicyCube(0, 0, 0) = 32; setPolicyCube(0, 31, 31) = 1");
        Bounds.test(30, "BAD_VALUE, also if there is no such policy", Setups.RICH, "setPolicyCube(2, 0, 0) = BAD_VALUE",
            "setPolicyCube(-1, 0, 0) = BAD_VALUE; setPolicyCube(0, 16, 0) = BAD_VALUE; setPolicyCube(0, 0, 16) = BAD_VALUE",
            "setPolicyCube(1, -1, 0) = BAD_VALUE; setPolicyCube(1, 0, -1) = BAD_VALUE; setPolicyCube(8, 16, 16) = BAD_VALUE",
            "setPolicyCube(MAX, 0, 0) = BAD_VALUE; setPolicyCube(MIN, 0, 0) = BAD_VALUE; count(3) = 2");
    }

    private static void promise31() {
        Bounds.test(31, "`policy`: number of a policy", "counterexamples(0) = NO_VALUE; counterexamples(<0..>) = NO_VALUE",
            "addPolicy(true, 0, 0, 0, 1) = 0; counterexamples(0) = 65535; counterexamples(<0..0>) = NO_VALUE",
            "clearPolicies() = 1; counterexamples(0) = NO_VALUE", Setups.eightPolicies(), "counterexamples(7) = 65535",
            "counterexamples(0) = 65535; counterexamples(<0..7>) = NO_VALUE; reset(4) = 4; counterexamples(0) = NO_VALUE");
        Bounds.test(31, "Returns the set of its counterexamples", "reset(5) = 4; addPolicy(true, 5, 3, 5, 3) = 0",
            "addPolicy(false, 5, 3, 5, 3) = 1; counterexamples(0) = 4294967295; counterexamples(1) = 0",
            "insertForward(5, 0, 8, 31, 31, 8) = 1; counterexamples(0) = 2147483647; counterexamples(1) = 2147483648",
            "insertForward(5, 0, 8, 31, 0, 8) = 2; counterexamples(1) = 2147483649; insertForward(5, 0, 8, 0, 0, 8) = 3",
            "counterexamples(0) = 0; counterexamples(1) = 4294967295");
        Bounds.test(31, "NO_VALUE", Setups.RICH, "counterexamples(2) = NO_VALUE; counterexamples(-1) = NO_VALUE",
            "counterexamples(8) = NO_VALUE; counterexamples(MIN) = NO_VALUE; counterexamples(MAX) = NO_VALUE");
    }

    private static void promise32() {
        Bounds.test(32, "Returns the violated policies (those that have counterexamples), as a bit set", "violated() = 0",
            "addPolicy(false, 0, 0, 0, 1) = 0; violated() = 0; clearPolicies() = 1", Setups.eightPolicies(), "violated() = 255",
            "addPolicy(true, 0, 0, 0, 1) = FULL; violated() = 255; insertForward(0, 0, 1, 15, 15, 2) = 1; violated() = 255",
            "setPolicyCube(0, 15, 15) = 1; violated() = 254; setPolicyCube(7, 15, 15) = 1; violated() = 126; undo() = 0",
            "violated() = 255; insertForward(0, 0, 1, 0, 0, 2) = 1; violated() = 0; clearPolicies() = 8; violated() = 0");
    }

    private static void promise33() {
        Bounds.same(33, "Removes all policies", Setups.eightPolicies() + "clearPolicies() = 8", "");
        Bounds.test(33, "Removes all policies", "clearPolicies() = 0", Setups.eightPolicies(), "clearPolicies() = 8",
            "count(3) = 0; violated() = 0; counterexamples(0) = NO_VALUE; setPolicyCube(0, 0, 0) = BAD_VALUE; count(4) = 0",
            "undo() = NONE; count(3) = 0");
        Bounds.test(33, "Returns how many there were", "clearPolicies() = 0; addPolicy(true, 0, 0, 0, 0) = 0; clearPolicies() = 1",
            "clearPolicies() = 0", Setups.eightPolicies(), "addPolicy(true, 0, 0, 0, 0) = FULL; clearPolicies() = 8",
            "clearPolicies() = 0", Setups.eightPolicies(), "reset(4) = 4; clearPolicies() = 0");
    }
}
