import java.util.ArrayList;
import java.util.List;

/**
 * What can be seen of an object after some calls, by every method that asks. That takes more calls than one
 * object may be asked, and some looks change what they look at, so each group of looks makes the calls
 * again on a new object. State is looked at as a whole (links, rules, history, policies, text); of what
 * follows from it, such as traces, origins and cubes, a choice of arguments is asked for.
 */
final class Looks {
    private static final int GROUPS = 7;

    private final List<String> seen = new ArrayList<>();
    private Caller network;
    private int left;

    private Looks() {
    }

    /** The number of looks depends on the budget alone, so that the lists of two objects are alike. */
    static List<String> after(List<Step> steps, int budget) {
        Looks looks = new Looks();
        for (int group = 0; group < GROUPS; group++) {
            looks.network = new Caller();
            looks.left = budget;
            for (Step step : steps) {
                looks.network.call(step.name(), step.arguments());
            }
            looks.look(group);
        }
        return looks.seen;
    }

    private void look(int group) {
        switch (group) {
            case 0 -> atRules();
            case 1 -> atArrivals();
            case 2 -> atPackets();
            case 3 -> atCutsAndTexts();
            case 4 -> atHistory();
            case 5 -> atText();
            default -> atPolicies();
        }
    }

    private long see(String name, int... arguments) {
        if (left <= 0) {
            return Long.MIN_VALUE;
        }
        left--;
        long answer = network.call(name, arguments);
        seen.add(Caller.told(name, arguments) + " = " + answer);
        return answer;
    }

    private int rulesOf(int box) {
        int rules = 0;
        while (rules < 6 && see("rule", box, rules, 0) >= 0) {
            rules++;
        }
        return rules;
    }

    private void atRules() {
        for (int what = 0; what < 5; what++) {
            see("count", what);
        }
        for (int box = 0; box < 6; box++) {
            for (int port = 0; port < 4; port++) {
                see("other", box, port);
            }
            see("shadowed", box);
            int rules = rulesOf(box);
            for (int rule = 0; rule < rules; rule++) {
                for (int what = 1; what < 7; what++) {
                    see("rule", box, rule, what);
                }
            }
        }
    }

    private void atArrivals() {
        see("loops");
        atCounterexamples();
        for (int box = 0; box < 6; box++) {
            for (int what = 0; what < 3; what++) {
                see("arrivals", box, what);
            }
            int rules = rulesOf(box);
            for (int rule = 0; rule < rules; rule++) {
                see("hits", box, rule);
            }
            for (int port = 0; port < 4; port++) {
                see("delivered", box, port);
                if (see("arriving", box, port) != 0) {
                    for (int k = 0; k < 3; k++) {
                        see("cube", box, port, k, 0);
                        see("cube", box, port, k, 1);
                    }
                }
            }
        }
    }

    private void atPackets() {
        int headers = 1 << see("count", 0);
        int first = -1;
        for (int header = 0; header < headers; header++) {
            if (see("traceEnd", header) >= 0) {
                first = first < 0 ? header : first;
                see("trace", header, 0);
                see("trace", header, 1);
                see("trace", header, 3);
            }
        }
        for (int box = 0; box < 6; box++) {
            for (int port = 0; port < 4; port++) {
                see("distance", first, box, port);
                see("origin", box, port, 0);
                see("origin", box, port, headers / 2);
                see("origin", box, port, headers - 1);
            }
        }
    }

    private void atCutsAndTexts() {
        for (int box = 0; box < 6; box++) {
            for (int port = 0; port < 4; port++) {
                long size = see("cutSize", box, port);
                for (int k = 0; k < size; k++) {
                    see("cutRule", box, port, k);
                }
            }
            int rules = rulesOf(box);
            for (int rule = 0; rule < rules; rule++) {
                for (int i = 0; i < 10; i += 3) {
                    see("ruleText", box, rule, i);
                }
            }
        }
    }

    /** Undoes all that can be undone. */
    private void atHistory() {
        boolean more = true;
        for (int i = 0; i <= 12 && more; i++) {
            more = see("undo") >= 0;
            for (int box = 0; box < 6; box++) {
                int rules = rulesOf(box);
                for (int rule = 0; rule < rules; rule++) {
                    see("rule", box, rule, 4);
                    see("rule", box, rule, 6);
                }
            }
        }
    }

    /** Reads the text with every number of bits, then fills it and empties it. */
    private void atText() {
        for (int bits = 1; bits <= 5; bits++) {
            see("reset", bits);
            if (see("readRule", 0) == 1) {
                for (int what = 0; what < 7; what++) {
                    see("rule", 0, 0, what);
                }
            }
        }
        boolean more = true;
        for (int i = 0; i <= 40 && more; i++) {
            more = see("type", '0') >= 0;
        }
        see("clearText");
    }

    /** Asks only for policies that are there, so that no refused call can hide what another one did. */
    private long atCounterexamples() {
        long policies = see("count", 3);
        for (int policy = 0; policy < policies; policy++) {
            see("counterexamples", policy);
        }
        see("violated");
        return policies;
    }

    /** Tries each way through one box alone, so that the places and kinds of policies show. */
    private void atPolicies() {
        if (atCounterexamples() == 0) {
            return;
        }
        for (int box = 0; box < 6; box++) {
            for (int rule = rulesOf(box); rule > 0; rule--) {
                see("removeRule", box, 0);
            }
            for (int port = 0; port < 4; port++) {
                see("disconnect", box, port);
            }
        }
        atCounterexamples();
        for (int way = 0; way < 96; way++) {
            see("insertForward", way / 16, 0, 1 << way / 4 % 4, 0, 0, 1 << way % 4);
            see("violated");
            see("undo");
        }
    }
}
