import java.lang.management.ManagementFactory;

/**
 * All calls of a run live in one room: questions must make no object at all, an edit at most a rule,
 * and a new network a few thousand elements. The test also makes the dearest searches, so that one
 * that took for ever would be seen.
 */
public final class RoomTest {
    private static final com.sun.management.ThreadMXBean THREADS =
        (com.sun.management.ThreadMXBean) ManagementFactory.getThreadMXBean();

    private static int wrong = 0;
    /** Answers go here, so that no call can be left out. */
    private static long sum = 0;

    private RoomTest() {
    }

    public static void main(String[] args) {
        bytesOfNew();
        atMost("a new network", 40_000, bytesOfNew());
        HeaderSpaceNetwork network = crowded();
        ask(network);
        long before = allocated();
        ask(network);
        long asked = allocated();
        edit(network);
        long edited = allocated();
        // Some bytes are left to the machine itself, which loads and links what runs.
        atMost("some 250 questions", 1000, asked - before);
        atMost("600 edits", 600 * 64, edited - asked);
        System.out.println(wrong + " wrong");
        if (wrong != 0 || sum == 0) {
            System.exit(1);
        }
    }

    private static void atMost(String what, long most, long bytes) {
        if (bytes > most) {
            wrong++;
            System.out.println(what + ": " + bytes + " bytes, at most " + most + " are due");
        }
    }

    private static long allocated() {
        return THREADS.getThreadAllocatedBytes(Thread.currentThread().getId());
    }

    private static long bytesOfNew() {
        long before = allocated();
        sum += new HeaderSpaceNetwork().count(0);
        return allocated() - before;
    }

    /** All rules and links that there can be; every box copies packets to all its ports. */
    private static HeaderSpaceNetwork crowded() {
        HeaderSpaceNetwork network = new HeaderSpaceNetwork();
        network.reset(5);
        for (int box = 0; box < 6; box++) {
            for (int rule = 0; rule < 6; rule++) {
                network.insertForward(box, rule, 15, rule == 5 ? 0 : 31, 5 * box + rule, 15);
                network.setRewriting(box, rule, 1 << rule % 5, rule % 2 * 31);
            }
        }
        for (int box = 0; box < 6; box++) {
            network.connect(box, 1, (box + 1) % 6, 0);
            network.connect(box, 2, (box + 3) % 6, 2);
        }
        for (int i = 0; i < 8; i++) {
            network.addPolicy(i % 2 == 0, i % 6, i % 4, 5 - i % 6, 3);
        }
        return network;
    }

    private static void ask(HeaderSpaceNetwork network) {
        for (int box = 0; box < 6; box++) {
            for (int port = 0; port < 4; port++) {
                sum += network.arriving(box, port) + network.delivered(box, port) + network.other(box, port);
                sum += network.cube(box, port, 7, 0) + network.origin(box, port, 31);
                sum += network.distance(31, box, port) + network.cutSize(box, port);
                sum += network.cutRule(box, port, 1);
            }
            sum += network.arrivals(box, box % 3) + network.hits(box, 3) + network.shadowed(box);
            sum += network.rule(box, 2, 4) + network.ruleText(box, 5, 4) + network.counterexamples(box);
        }
        sum += network.loops() + network.violated() + network.trace(3, 100) + network.traceEnd(7);
        sum += network.inject(0, 3, 0, 0) + network.clearText() + network.type('x') + network.readRule(0);
    }

    private static void edit(HeaderSpaceNetwork network) {
        for (int i = 0; i < 100; i++) {
            int box = i % 6;
            sum += network.removeRule(box, i % 5) + network.insertDrop(box, 2, 15, 3, i % 32);
            sum += network.switchRule(box, 1, i % 2 == 0) + network.moveRule(box, 0, 5);
            sum += network.undo() + network.undo();
        }
    }
}
