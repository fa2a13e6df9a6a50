import java.util.Arrays;

/**
 * An analyser for networks of filtering boxes. Its document says, promise by promise, what each
 * public method answers; the comments here say why the code is as it is.
 */
public final class HeaderSpaceNetwork {
    public static final int NO_SUCH_PLACE = -1;
    public static final int NO_SUCH_RULE = -2;
    public static final int BAD_VALUE = -3;
    public static final int NOT_POSSIBLE = -4;
    public static final int FULL = -5;
    public static final int NONE = -6;
    public static final long NO_VALUE = Long.MIN_VALUE;

    private static final int BOXES = 6;
    private static final int PORTS = 4;
    private static final int PLACES = BOXES * PORTS;
    private static final int ALL_PORTS = 15;
    private static final int MOST_BITS = 5;
    private static final int MOST_HEADERS = 32;
    private static final int MOST_ARRIVALS = PLACES * MOST_HEADERS;
    private static final int MOST_RULES = 6;
    private static final int SLOTS = BOXES * MOST_RULES;
    private static final int MOST_EDITS = 12;
    private static final int MOST_POLICIES = 8;
    private static final int MOST_CHARACTERS = 40;
    private static final int MOST_CUT = 3;
    private static final int FIRST_FAULT = -100;

    private static final int NOWHERE = -1;
    private static final int NOBODY = -1;

    private static final int DELIVERED = 0;
    private static final int DROPPED = 1;
    private static final int LOST = 2;
    private static final int LOOPING = 3;
    private static final int GOING = 4;

    /** For each bit, the headers that have it. */
    private static final long[] WITH_BIT = {
        0xAAAAAAAAL, 0xCCCCCCCCL, 0xF0F0F0F0L, 0xFF00FF00L, 0xFFFF0000L
    };

    private final Net net;
    private final History history;
    private final Flow flow;
    private final Fates fates;
    private final Walk walk;
    private final Cuts cuts;
    private final Text text;
    private final RuleWriter writer;
    private final Policy[] policies;
    private int policyCount;
    private int entry;
    private long entering;

    public HeaderSpaceNetwork() {
        net = new Net();
        history = new History();
        flow = new Flow(net);
        fates = new Fates(net);
        walk = new Walk(net);
        cuts = new Cuts(net);
        text = new Text();
        writer = new RuleWriter();
        policies = new Policy[MOST_POLICIES];
        for (int i = 0; i < MOST_POLICIES; i++) {
            policies[i] = new Policy();
        }
        entering = net.allHeaders();
    }

    // ---- network

    public int reset(int bits) {
        if (bits < 1 || bits > MOST_BITS) {
            return BAD_VALUE;
        }
        int previous = net.bits;
        net.startAnew(bits);
        history.size = 0;
        policyCount = 0;
        entry = 0;
        entering = net.allHeaders();
        return previous;
    }

    public int connect(int box, int port, int otherBox, int otherPort) {
        if (!isPlace(box, port) || !isPlace(otherBox, otherPort)) {
            return NO_SUCH_PLACE;
        }
        int one = placeOf(box, port);
        int two = placeOf(otherBox, otherPort);
        if (one == two || net.far[one] != NOWHERE || net.far[two] != NOWHERE) {
            return NOT_POSSIBLE;
        }
        net.far[one] = two;
        net.far[two] = one;
        net.links++;
        return net.links;
    }

    public int disconnect(int box, int port) {
        if (!isPlace(box, port)) {
            return NO_SUCH_PLACE;
        }
        int one = placeOf(box, port);
        int two = net.far[one];
        if (two == NOWHERE) {
            return NONE;
        }
        net.far[one] = NOWHERE;
        net.far[two] = NOWHERE;
        net.links--;
        return net.links;
    }

    public int other(int box, int port) {
        if (!isPlace(box, port)) {
            return NO_SUCH_PLACE;
        }
        int far = net.far[placeOf(box, port)];
        return far == NOWHERE ? NONE : 10 * (far / PORTS) + far % PORTS;
    }

    // ---- rules

    public int insertDrop(int box, int place, int ports, int care, int value) {
        if (!isBox(box)) {
            return NO_SUCH_PLACE;
        }
        if (!isInsertable(box, place, ports, care, value)) {
            return BAD_VALUE;
        }
        return insertRule(box, place, new Rule(ports, care, value, 0, 0, 0, true));
    }

    public int insertForward(int box, int place, int ports, int care, int value, int outputs) {
        if (!isBox(box)) {
            return NO_SUCH_PLACE;
        }
        if (!isInsertable(box, place, ports, care, value) || !isPortSet(outputs)) {
            return BAD_VALUE;
        }
        return insertRule(box, place, new Rule(ports, care, value, outputs, 0, 0, true));
    }

    public int setRewriting(int box, int rule, int change, int to) {
        int error = ruleError(box, rule);
        if (error != 0) {
            return error;
        }
        if (!net.isCube(change, to)) {
            return BAD_VALUE;
        }
        Rule old = net.boxes[box].rules[rule];
        if (old.outputs == 0) {
            return NOT_POSSIBLE;
        }
        Rule changed = old.withRewriting(change, to);
        replaceRule(box, rule, changed);
        return changed.change != old.change || changed.to != old.to ? 1 : 0;
    }

    public int removeRule(int box, int rule) {
        int error = ruleError(box, rule);
        if (error != 0) {
            return error;
        }
        RuleList list = net.boxes[box];
        history.keep(box, list);
        list.removeAt(rule);
        return list.size;
    }

    public int moveRule(int box, int from, int to) {
        int error = ruleError(box, from);
        if (error == 0) {
            error = ruleError(box, to);
        }
        if (error != 0) {
            return error;
        }
        RuleList list = net.boxes[box];
        history.keep(box, list);
        Rule moved = list.rules[from];
        list.removeAt(from);
        list.insertAt(to, moved);
        return from != to ? 1 : 0;
    }

    public int switchRule(int box, int rule, boolean on) {
        int error = ruleError(box, rule);
        if (error != 0) {
            return error;
        }
        Rule old = net.boxes[box].rules[rule];
        replaceRule(box, rule, old.switched(on));
        return old.on != on ? 1 : 0;
    }

    public int undo() {
        if (history.size == 0) {
            return NONE;
        }
        history.takeBack(net);
        return history.size;
    }

    public int rule(int box, int rule, int what) {
        int error = ruleError(box, rule);
        if (error != 0) {
            return error;
        }
        Rule asked = net.boxes[box].rules[rule];
        switch (what) {
            case 0:
                return asked.ports;
            case 1:
                return asked.care;
            case 2:
                return asked.value;
            case 3:
                return asked.outputs;
            case 4:
                return asked.change;
            case 5:
                return asked.to;
            case 6:
                return asked.on ? 1 : 0;
            default:
                return BAD_VALUE;
        }
    }

    public int count(int what) {
        switch (what) {
            case 0:
                return net.bits;
            case 1:
                return net.links;
            case 2:
                return net.countRules();
            case 3:
                return policyCount;
            case 4:
                return history.size;
            default:
                return BAD_VALUE;
        }
    }

    public int shadowed(int box) {
        return isBox(box) ? net.boxes[box].hiddenRules() : NO_SUCH_PLACE;
    }

    // ---- injection and arrivals

    public int inject(int box, int port, int care, int value) {
        if (!isPlace(box, port)) {
            return NO_SUCH_PLACE;
        }
        if (!net.isCube(care, value)) {
            return BAD_VALUE;
        }
        entry = placeOf(box, port);
        entering = net.allHeaders() & cubeHeaders(care, value);
        return Long.bitCount(entering);
    }

    public long arriving(int box, int port) {
        if (!isPlace(box, port)) {
            return NO_VALUE;
        }
        flow.spreadFrom(entry, entering);
        return flow.arrived[placeOf(box, port)];
    }

    public long delivered(int box, int port) {
        if (!isPlace(box, port)) {
            return NO_VALUE;
        }
        flow.spreadFrom(entry, entering);
        return flow.deliveredAt(box, port);
    }

    public int arrivals(int box, int what) {
        if (!isBox(box)) {
            return NO_SUCH_PLACE;
        }
        if (what < 0 || what > 2) {
            return BAD_VALUE;
        }
        flow.spreadFrom(entry, entering);
        switch (what) {
            case 0:
                return flow.countArrived(box);
            case 1:
                return flow.countDropped(box);
            default:
                return flow.countLost(box);
        }
    }

    public int hits(int box, int rule) {
        int error = ruleError(box, rule);
        if (error != 0) {
            return error;
        }
        flow.spreadFrom(entry, entering);
        return flow.countHandled(box, rule);
    }

    public int cube(int box, int port, int k, int what) {
        if (!isPlace(box, port)) {
            return NO_SUCH_PLACE;
        }
        if (k < 0 || what < 0 || what > 1) {
            return BAD_VALUE;
        }
        flow.spreadFrom(entry, entering);
        long arrived = flow.arrived[placeOf(box, port)];
        long uncovered = arrived;
        int number = 0;
        for (int header = 0; header < MOST_HEADERS; header++) {
            if (hasHeader(uncovered, header)) {
                int care = widestCare(header, arrived);
                if (number == k) {
                    return what == 0 ? care : header & care;
                }
                number++;
                uncovered &= ~cubeHeaders(care, header);
            }
        }
        return NONE;
    }

    public int origin(int box, int port, int header) {
        if (!isPlace(box, port)) {
            return NO_SUCH_PLACE;
        }
        if (!net.isHeader(header)) {
            return BAD_VALUE;
        }
        return flow.leastOrigin(entry, entering, placeOf(box, port), header);
    }

    // ---- packets

    public int distance(int header, int box, int port) {
        if (!isInjected(header)) {
            return BAD_VALUE;
        }
        if (!isPlace(box, port)) {
            return NO_SUCH_PLACE;
        }
        return flow.leastLinks(entry, header, placeOf(box, port));
    }

    public int trace(int header, int k) {
        if (!isInjected(header) || k < 0) {
            return BAD_VALUE;
        }
        int gone = walk.go(entry, header, Math.min(k, MOST_ARRIVALS));
        if (gone < k) {
            return NONE;
        }
        return 1000 * (walk.place / PORTS) + 100 * (walk.place % PORTS) + walk.header;
    }

    public int traceEnd(int header) {
        if (!isInjected(header)) {
            return BAD_VALUE;
        }
        walk.go(entry, header, MOST_ARRIVALS);
        return walk.end;
    }

    public long loops() {
        fates.find(NOWHERE);
        return entering & ~fates.found[entry];
    }

    // ---- cuts

    public int cutSize(int box, int port) {
        if (!isPlace(box, port)) {
            return NO_SUCH_PLACE;
        }
        return cuts.smallest(entry, entering, placeOf(box, port));
    }

    public int cutRule(int box, int port, int k) {
        if (!isPlace(box, port)) {
            return NO_SUCH_PLACE;
        }
        if (k < 0) {
            return BAD_VALUE;
        }
        int size = cuts.smallest(entry, entering, placeOf(box, port));
        if (k >= size || k >= MOST_CUT) {
            return NONE;
        }
        int slot = cuts.members[k];
        return 10 * (slot / MOST_RULES) + slot % MOST_RULES;
    }

    // ---- policies

    public int addPolicy(boolean always, int box, int port, int toBox, int toPort) {
        if (!isPlace(box, port) || !isPlace(toBox, toPort)) {
            return NO_SUCH_PLACE;
        }
        if (policyCount >= MOST_POLICIES) {
            return FULL;
        }
        Policy added = policies[policyCount];
        added.always = always;
        added.from = placeOf(box, port);
        added.target = placeOf(toBox, toPort);
        added.headers = net.allHeaders();
        policyCount++;
        return policyCount - 1;
    }

    public int setPolicyCube(int policy, int care, int value) {
        if (!isPolicy(policy) || !net.isCube(care, value)) {
            return BAD_VALUE;
        }
        long headers = net.allHeaders() & cubeHeaders(care, value);
        policies[policy].headers = headers;
        return Long.bitCount(headers);
    }

    public long counterexamples(int policy) {
        return isPolicy(policy) ? against(policies[policy]) : NO_VALUE;
    }

    public int violated() {
        int set = 0;
        for (int i = 0; i < policyCount; i++) {
            if (against(policies[i]) != 0) {
                set |= 1 << i;
            }
        }
        return set;
    }

    public int clearPolicies() {
        int previous = policyCount;
        policyCount = 0;
        return previous;
    }

    // ---- texts

    public int type(char character) {
        if (text.length >= MOST_CHARACTERS) {
            return FULL;
        }
        text.characters[text.length] = character;
        text.length++;
        return text.length;
    }

    public int clearText() {
        int previous = text.length;
        text.length = 0;
        return previous;
    }

    public int readRule(int box) {
        if (!isBox(box)) {
            return NO_SUCH_PLACE;
        }
        if (!text.isRule(net.bits)) {
            return FIRST_FAULT - text.at;
        }
        return insertRule(box, net.boxes[box].size, text.readOne());
    }

    public int ruleText(int box, int rule, int i) {
        int error = ruleError(box, rule);
        if (error != 0) {
            return error;
        }
        if (i < 0) {
            return BAD_VALUE;
        }
        writer.write(net.boxes[box].rules[rule], net.bits);
        return i < writer.length ? writer.characters[i] : NONE;
    }

    // ---- what the methods above share

    private static boolean isBox(int box) {
        return box >= 0 && box < BOXES;
    }

    private static boolean isPlace(int box, int port) {
        return isBox(box) && port >= 0 && port < PORTS;
    }

    private static int placeOf(int box, int port) {
        return box * PORTS + port;
    }

    private static boolean isPortSet(int ports) {
        return ports >= 1 && ports <= ALL_PORTS;
    }

    private static boolean hasPort(int ports, int port) {
        return (ports >> port & 1) != 0;
    }

    private static boolean hasHeader(long set, int header) {
        return (set >>> header & 1L) != 0;
    }

    /** Counts headers as if they had five bits; where they have fewer, the caller masks them. */
    private static long cubeHeaders(int care, int value) {
        long set = (1L << MOST_HEADERS) - 1;
        for (int bit = 0; bit < MOST_BITS; bit++) {
            if ((care >> bit & 1) != 0) {
                set &= (value >> bit & 1) != 0 ? WITH_BIT[bit] : ~WITH_BIT[bit];
            }
        }
        return set;
    }

    private boolean isPolicy(int policy) {
        return policy >= 0 && policy < policyCount;
    }

    private boolean isInjected(int header) {
        return net.isHeader(header) && hasHeader(entering, header);
    }

    /** The error of a box and a rule, or 0. */
    private int ruleError(int box, int rule) {
        if (!isBox(box)) {
            return NO_SUCH_PLACE;
        }
        return rule < 0 || rule >= net.boxes[box].size ? NO_SUCH_RULE : 0;
    }

    private boolean isInsertable(int box, int place, int ports, int care, int value) {
        return place >= 0 && place <= net.boxes[box].size && isPortSet(ports)
            && net.isCube(care, value);
    }

    private int insertRule(int box, int place, Rule rule) {
        RuleList list = net.boxes[box];
        if (list.size >= MOST_RULES) {
            return FULL;
        }
        history.keep(box, list);
        list.insertAt(place, rule);
        return list.size;
    }

    private void replaceRule(int box, int rule, Rule changed) {
        RuleList list = net.boxes[box];
        history.keep(box, list);
        list.rules[rule] = changed;
    }

    private int widestCare(int header, long among) {
        int care = (1 << net.bits) - 1;
        for (int bit = 0; bit < net.bits; bit++) {
            int wider = care & ~(1 << bit);
            long headers = net.allHeaders() & cubeHeaders(wider, header);
            if ((headers & ~among) == 0) {
                care = wider;
            }
        }
        return care;
    }

    private long against(Policy policy) {
        fates.find(policy.target);
        long delivered = fates.found[policy.from];
        return policy.headers & (policy.always ? ~delivered : delivered);
    }

    // ---- the parts

    /** A rule; it never changes, so that the history may share it. */
    private static final class Rule {
        final int ports;
        final int care;
        final int value;
        final int outputs;
        final int change;
        final int to;
        final boolean on;
        final long headers;

        /** No outputs means that it drops packets. */
        Rule(int ports, int care, int value, int outputs, int change, int to, boolean on) {
            this.ports = ports;
            this.care = care;
            this.value = value & care;
            this.outputs = outputs;
            this.change = change;
            this.to = to & change;
            this.on = on;
            this.headers = cubeHeaders(care, value);
        }

        Rule withRewriting(int newChange, int newTo) {
            return new Rule(ports, care, value, outputs, newChange, newTo, on);
        }

        Rule switched(boolean newOn) {
            return new Rule(ports, care, value, outputs, change, to, newOn);
        }

        /** Those of the headers that it would handle at a port if it were asked first. */
        long taken(int port, long asked) {
            return on && (ports >> port & 1) != 0 ? asked & headers : 0L;
        }

        int rewritten(int header) {
            return header & ~change | to;
        }

        /** What the headers become; bit by bit, half of the set moves onto the other half. */
        long rewrittenSet(long set) {
            long result = set;
            for (int bit = 0; bit < MOST_BITS; bit++) {
                if ((change >> bit & 1) != 0) {
                    long high = result & WITH_BIT[bit];
                    long low = result & ~WITH_BIT[bit];
                    int step = 1 << bit;
                    result = (to >> bit & 1) != 0 ? high | low << step : low | high >>> step;
                }
            }
            return result;
        }

        /** The headers that become one of the set. */
        long leadingInto(long set) {
            long result = set;
            for (int bit = 0; bit < MOST_BITS; bit++) {
                if ((change >> bit & 1) != 0) {
                    long high = result & WITH_BIT[bit];
                    long low = result & ~WITH_BIT[bit];
                    int step = 1 << bit;
                    result = (to >> bit & 1) != 0 ? high | high >>> step : low | low << step;
                }
            }
            return result;
        }

        /** The port of the copy that is followed, if it forwards. */
        int lowestOutput() {
            for (int port = 0; port < PORTS; port++) {
                if (hasPort(outputs, port)) {
                    return port;
                }
            }
            return NOWHERE;
        }
    }

    /** The rules of a box. Unused places hold a rule that takes nothing, so that none is null. */
    private static final class RuleList {
        final Rule[] rules = new Rule[MOST_RULES];
        int size;

        RuleList(Rule unused) {
            for (int i = 0; i < MOST_RULES; i++) {
                rules[i] = unused;
            }
        }

        void insertAt(int place, Rule rule) {
            for (int i = Math.min(size, MOST_RULES - 1); i > place; i--) {
                rules[i] = rules[i - 1];
            }
            rules[place] = rule;
            size++;
        }

        void removeAt(int place) {
            for (int i = place + 1; i < size; i++) {
                rules[i - 1] = rules[i];
            }
            size--;
        }

        void copyFrom(RuleList source) {
            for (int i = 0; i < MOST_RULES; i++) {
                rules[i] = source.rules[i];
            }
            size = source.size;
        }

        /** Those of the headers at a port that none of the rules before this number takes. */
        long leftFor(int number, int port, long headers) {
            long left = headers;
            for (int i = 0; i < number; i++) {
                left &= ~rules[i].taken(port, left);
            }
            return left;
        }

        long handled(int number, int port, long headers) {
            return rules[number].taken(port, leftFor(number, port, headers));
        }

        /** The number of the rule that handles a packet while some more rules are off. */
        int handler(int port, int header, int alsoOff) {
            long packet = 1L << header;
            for (int i = 0; i < size; i++) {
                if ((alsoOff >> i & 1) == 0 && rules[i].taken(port, packet) != 0) {
                    return i;
                }
            }
            return NOBODY;
        }

        int hiddenRules() {
            int set = 0;
            for (int i = 0; i < size; i++) {
                if (rules[i].on && isHidden(i)) {
                    set |= 1 << i;
                }
            }
            return set;
        }

        private boolean isHidden(int number) {
            for (int port = 0; port < PORTS; port++) {
                if (handled(number, port, rules[number].headers) != 0) {
                    return false;
                }
            }
            return true;
        }
    }

    /** Links and rules: all that the way of a packet depends on. */
    private static final class Net {
        int bits;
        int links;
        final int[] far = new int[PLACES];
        final RuleList[] boxes = new RuleList[BOXES];

        Net() {
            Rule unused = new Rule(0, 0, 0, 0, 0, 0, false);
            for (int box = 0; box < BOXES; box++) {
                boxes[box] = new RuleList(unused);
            }
            startAnew(4);
        }

        void startAnew(int newBits) {
            bits = newBits;
            links = 0;
            Arrays.fill(far, NOWHERE);
            for (int box = 0; box < BOXES; box++) {
                boxes[box].size = 0;
            }
        }

        long allHeaders() {
            return (1L << (1 << bits)) - 1;
        }

        boolean isHeader(int header) {
            return header >= 0 && header < 1 << bits;
        }

        boolean isCube(int care, int value) {
            return isHeader(care) && isHeader(value);
        }

        int countRules() {
            int sum = 0;
            for (int box = 0; box < BOXES; box++) {
                sum += boxes[box].size;
            }
            return sum;
        }
    }

    /**
     * The edits that can be undone. An edit changes one box only, so the former rules of this box
     * are enough.
     */
    private static final class History {
        final RuleList[] lists = new RuleList[MOST_EDITS];
        final int[] boxes = new int[MOST_EDITS];
        int size;
        int next;

        History() {
            Rule unused = new Rule(0, 0, 0, 0, 0, 0, false);
            for (int i = 0; i < MOST_EDITS; i++) {
                lists[i] = new RuleList(unused);
            }
        }

        /** Writes in a ring, so that the thirteenth edit takes the place of the oldest one. */
        void keep(int box, RuleList before) {
            lists[next].copyFrom(before);
            boxes[next] = box;
            next = (next + 1) % MOST_EDITS;
            size = Math.min(size + 1, MOST_EDITS);
        }

        void takeBack(Net net) {
            next = (next + MOST_EDITS - 1) % MOST_EDITS;
            size--;
            net.boxes[boxes[next]].copyFrom(lists[next]);
        }
    }

    /** Follows whole sets of headers forwards, link by link. */
    private static final class Flow {
        final Net net;
        final long[] arrived = new long[PLACES];
        final long[] fresh = new long[PLACES];
        final long[] coming = new long[PLACES];

        Flow(Net net) {
            this.net = net;
        }

        void spreadFrom(int place, long headers) {
            forget();
            enter(place, headers);
            spread();
        }

        /**
         * Lets the headers in one after the other, in ascending order: what has arrived already
         * followed from a lesser header, and so did everything behind it.
         */
        int leastOrigin(int from, long headers, int place, int wanted) {
            forget();
            for (int header = 0; header < MOST_HEADERS; header++) {
                if (hasHeader(headers, header)) {
                    enter(from, 1L << header);
                    spread();
                    if (hasHeader(arrived[place], wanted)) {
                        return header;
                    }
                }
            }
            return NONE;
        }

        int leastLinks(int from, int header, int place) {
            forget();
            enter(from, 1L << header);
            for (int links = 0; links <= MOST_ARRIVALS; links++) {
                if (arrived[place] != 0) {
                    return links;
                }
                if (!goOneLink()) {
                    return NONE;
                }
            }
            return NONE;
        }

        int countArrived(int box) {
            int sum = 0;
            for (int port = 0; port < PORTS; port++) {
                sum += Long.bitCount(arrived[placeOf(box, port)]);
            }
            return sum;
        }

        int countLost(int box) {
            RuleList list = net.boxes[box];
            int sum = 0;
            for (int port = 0; port < PORTS; port++) {
                sum += Long.bitCount(list.leftFor(list.size, port, arrived[placeOf(box, port)]));
            }
            return sum;
        }

        int countDropped(int box) {
            RuleList list = net.boxes[box];
            int sum = 0;
            for (int i = 0; i < list.size; i++) {
                if (list.rules[i].outputs == 0) {
                    sum += countHandled(box, i);
                }
            }
            return sum;
        }

        int countHandled(int box, int rule) {
            RuleList list = net.boxes[box];
            int sum = 0;
            for (int port = 0; port < PORTS; port++) {
                sum += Long.bitCount(list.handled(rule, port, arrived[placeOf(box, port)]));
            }
            return sum;
        }

        long deliveredAt(int box, int output) {
            if (net.far[placeOf(box, output)] != NOWHERE) {
                return 0L;
            }
            RuleList list = net.boxes[box];
            long set = 0L;
            for (int i = 0; i < list.size; i++) {
                Rule rule = list.rules[i];
                if (hasPort(rule.outputs, output)) {
                    set |= rule.rewrittenSet(allHandled(box, i));
                }
            }
            return set;
        }

        private long allHandled(int box, int rule) {
            RuleList list = net.boxes[box];
            long set = 0L;
            for (int port = 0; port < PORTS; port++) {
                set |= list.handled(rule, port, arrived[placeOf(box, port)]);
            }
            return set;
        }

        private void forget() {
            Arrays.fill(arrived, 0L);
            Arrays.fill(fresh, 0L);
            Arrays.fill(coming, 0L);
        }

        private void enter(int place, long headers) {
            fresh[place] = headers & ~arrived[place];
            arrived[place] |= headers;
        }

        /** Every step but the last one brings a new arrival, so there can't be more steps. */
        private void spread() {
            boolean more = true;
            for (int step = 0; more && step <= MOST_ARRIVALS; step++) {
                more = goOneLink();
            }
        }

        /** Tells whether something came to a place where it had not been. */
        private boolean goOneLink() {
            for (int place = 0; place < PLACES; place++) {
                if (fresh[place] != 0) {
                    handle(place, fresh[place]);
                }
            }
            boolean more = false;
            for (int place = 0; place < PLACES; place++) {
                fresh[place] = coming[place];
                arrived[place] |= coming[place];
                more = more || coming[place] != 0;
                coming[place] = 0L;
            }
            return more;
        }

        private void handle(int place, long headers) {
            int box = place / PORTS;
            RuleList list = net.boxes[box];
            long left = headers;
            for (int i = 0; i < list.size && left != 0; i++) {
                Rule rule = list.rules[i];
                long taken = rule.taken(place % PORTS, left);
                if (taken != 0) {
                    left &= ~taken;
                    sendOut(box, rule.outputs, rule.rewrittenSet(taken));
                }
            }
        }

        private void sendOut(int box, int outputs, long headers) {
            for (int port = 0; port < PORTS; port++) {
                int far = net.far[placeOf(box, port)];
                if (hasPort(outputs, port) && far != NOWHERE) {
                    coming[far] |= headers & ~arrived[far];
                }
            }
        }
    }

    /**
     * Works backwards, for all places and headers at once: what is true of an arrival is found
     * from what is true of the arrivals that follow from it, until nothing is added any more.
     */
    private static final class Fates {
        final Net net;
        final long[] found = new long[PLACES];

        Fates(Net net) {
            this.net = net;
        }

        /**
         * Finds the headers whose packets have a copy that is delivered at the target; if that is
         * NOWHERE, the headers whose packets come to an end with all their copies, so that no loop
         * follows. Every pass but the last one adds an arrival, so there can't be more passes.
         */
        void find(int target) {
            Arrays.fill(found, 0L);
            boolean grown = true;
            for (int pass = 0; grown && pass <= MOST_ARRIVALS; pass++) {
                grown = growOnce(target);
            }
        }

        private boolean growOnce(int target) {
            boolean grown = false;
            for (int place = 0; place < PLACES; place++) {
                long now = target == NOWHERE ? ending(place) : delivering(place, target);
                grown = grown || now != found[place];
                found[place] = now;
            }
            return grown;
        }

        private long ending(int place) {
            int box = place / PORTS;
            RuleList list = net.boxes[box];
            long left = net.allHeaders();
            long set = 0L;
            for (int i = 0; i < list.size; i++) {
                Rule rule = list.rules[i];
                long taken = rule.taken(place % PORTS, left);
                left &= ~taken;
                set |= taken & rule.leadingInto(endingBehindAll(box, rule.outputs));
            }
            return set | left;
        }

        private long endingBehindAll(int box, int outputs) {
            long set = net.allHeaders();
            for (int port = 0; port < PORTS; port++) {
                int far = net.far[placeOf(box, port)];
                if (hasPort(outputs, port) && far != NOWHERE) {
                    set &= found[far];
                }
            }
            return set;
        }

        private long delivering(int place, int target) {
            int box = place / PORTS;
            RuleList list = net.boxes[box];
            long left = net.allHeaders();
            long set = 0L;
            for (int i = 0; i < list.size; i++) {
                Rule rule = list.rules[i];
                long taken = rule.taken(place % PORTS, left);
                left &= ~taken;
                set |= taken & rule.leadingInto(deliveredBehindOne(box, rule.outputs, target));
            }
            return set;
        }

        private long deliveredBehindOne(int box, int outputs, int target) {
            long set = 0L;
            for (int port = 0; port < PORTS; port++) {
                if (hasPort(outputs, port)) {
                    int far = net.far[placeOf(box, port)];
                    if (far != NOWHERE) {
                        set |= found[far];
                    } else if (placeOf(box, port) == target) {
                        set = net.allHeaders();
                    }
                }
            }
            return set;
        }
    }

    /** Follows one packet, always by the lowest output port. */
    private static final class Walk {
        final Net net;
        final long[] seen = new long[PLACES];
        int place;
        int header;
        int end;

        Walk(Net net) {
            this.net = net;
        }

        /** Goes on by at most so many arrivals; returns by how many it could. */
        int go(int from, int packet, int most) {
            Arrays.fill(seen, 0L);
            place = from;
            header = packet;
            seen[from] = 1L << packet;
            end = GOING;
            for (int gone = 0; gone < most; gone++) {
                goOnce();
                if (end != GOING) {
                    return gone;
                }
            }
            return most;
        }

        private void goOnce() {
            int box = place / PORTS;
            RuleList list = net.boxes[box];
            int handler = list.handler(place % PORTS, header, 0);
            if (handler == NOBODY) {
                end = LOST;
                return;
            }
            Rule rule = list.rules[handler];
            int output = rule.lowestOutput();
            if (output == NOWHERE) {
                end = DROPPED;
                return;
            }
            int far = net.far[placeOf(box, output)];
            if (far == NOWHERE) {
                end = DELIVERED;
            } else if (hasHeader(seen[far], rule.rewritten(header))) {
                end = LOOPING;
            } else {
                header = rule.rewritten(header);
                place = far;
                seen[place] |= 1L << header;
            }
        }
    }

    /**
     * Searches for smallest cuts. A way is the set of rules that handle a packet until it is
     * delivered. A way that is open while some rules are off stays open when further rules are
     * switched off that are not on it, for these neither handled the packet nor came before one
     * that did. So a set can only be a cut if each of its rules is on the way that the others
     * leave open; only such sets are tried. Rules are numbered through all boxes, by slots.
     */
    private static final class Cuts {
        final Net net;
        final int[] members = new int[MOST_CUT];
        private final long[] withoutOne = new long[SLOTS];
        private final long[] withoutTwo = new long[SLOTS * SLOTS];
        private final int[] queue = new int[MOST_ARRIVALS];
        private final long[] wayHere = new long[MOST_ARRIVALS];
        private final long[] seen = new long[PLACES];
        private int queued;
        private int from;
        private long packets;
        private int target;

        Cuts(Net net) {
            this.net = net;
        }

        /** The size, or NONE; the rules stand in members then. */
        int smallest(int entry, long headers, int place) {
            from = entry;
            packets = headers;
            target = place;
            long way = openWay(0L);
            if (way == 0) {
                return 0;
            }
            if (cutByOne(way)) {
                return 1;
            }
            if (cutByTwo()) {
                return 2;
            }
            return cutByThree() ? 3 : NONE;
        }

        private boolean cutByOne(long way) {
            for (int one = 0; one < SLOTS; one++) {
                withoutOne[one] = isOn(way, one) ? openWay(1L << one) : way;
                if (withoutOne[one] == 0) {
                    members[0] = one;
                    return true;
                }
            }
            return false;
        }

        private boolean cutByTwo() {
            for (int one = 0; one < SLOTS; one++) {
                for (int two = one + 1; two < SLOTS; two++) {
                    long way = knownWay(one, two);
                    if (way == 0) {
                        way = openWay(1L << one | 1L << two);
                    }
                    if (way == 0) {
                        members[0] = one;
                        members[1] = two;
                        return true;
                    }
                    withoutTwo[one * SLOTS + two] = way;
                }
            }
            return false;
        }

        private boolean cutByThree() {
            for (int one = 0; one < SLOTS; one++) {
                for (int two = one + 1; two < SLOTS; two++) {
                    long way = withoutTwo[one * SLOTS + two];
                    for (int three = two + 1; three < SLOTS && way >>> three != 0; three++) {
                        if (isWorthTrying(one, two, three)
                            && openWay(1L << one | 1L << two | 1L << three) == 0) {
                            members[0] = one;
                            members[1] = two;
                            members[2] = three;
                            return true;
                        }
                    }
                }
            }
            return false;
        }

        /** A way that was found with one of the two off and does not need the other; or none. */
        private long knownWay(int one, int two) {
            if (!isOn(withoutOne[one], two)) {
                return withoutOne[one];
            }
            return isOn(withoutOne[two], one) ? 0L : withoutOne[two];
        }

        private boolean isWorthTrying(int one, int two, int three) {
            return isOn(withoutTwo[one * SLOTS + two], three)
                && isOn(withoutTwo[one * SLOTS + three], two)
                && isOn(withoutTwo[two * SLOTS + three], one);
        }

        private static boolean isOn(long way, int slot) {
            return (way >>> slot & 1L) != 0;
        }

        /** A way of the fewest arrivals while these rules are off; none if nothing is delivered. */
        private long openWay(long off) {
            Arrays.fill(seen, 0L);
            queued = 0;
            for (int header = 0; header < MOST_HEADERS; header++) {
                if (hasHeader(packets, header)) {
                    enqueue(from, header, 0L);
                }
            }
            for (int at = 0; at < queued && at < MOST_ARRIVALS; at++) {
                int slot = handlingSlot(at, off);
                if (slot != NOBODY && reachesTarget(at, slot)) {
                    return wayHere[at] | 1L << slot;
                }
            }
            return 0L;
        }

        /** Queues each arrival once, so the queue is long enough for all of them. */
        private void enqueue(int place, int header, long way) {
            if (!hasHeader(seen[place], header) && queued < MOST_ARRIVALS) {
                seen[place] |= 1L << header;
                queue[queued] = place * MOST_HEADERS + header;
                wayHere[queued] = way;
                queued++;
            }
        }

        private int handlingSlot(int at, long off) {
            int place = queue[at] / MOST_HEADERS;
            int firstSlot = place / PORTS * MOST_RULES;
            int offHere = (int) (off >>> firstSlot);
            RuleList list = net.boxes[place / PORTS];
            int handler = list.handler(place % PORTS, queue[at] % MOST_HEADERS, offHere);
            return handler == NOBODY ? NOBODY : firstSlot + handler;
        }

        /** Queues what follows from an arrival, unless a copy is delivered at the target. */
        private boolean reachesTarget(int at, int slot) {
            int box = slot / MOST_RULES;
            Rule rule = net.boxes[box].rules[slot % MOST_RULES];
            int header = rule.rewritten(queue[at] % MOST_HEADERS);
            long way = wayHere[at] | 1L << slot;
            for (int port = 0; port < PORTS; port++) {
                if (hasPort(rule.outputs, port)) {
                    int far = net.far[placeOf(box, port)];
                    if (far != NOWHERE) {
                        enqueue(far, header, way);
                    } else if (placeOf(box, port) == target) {
                        return true;
                    }
                }
            }
            return false;
        }
    }

    private static final class Policy {
        boolean always;
        int from;
        int target;
        long headers;
    }

    /** The text, and the rule that was read from it last. */
    private static final class Text {
        final char[] characters = new char[MOST_CHARACTERS];
        int length;
        int at;
        private int ports;
        private int outputs;
        private int care;
        private int value;
        private int change;
        private int to;

        /** Reads up to the first character that is not allowed; if there is one, it is at. */
        boolean isRule(int bits) {
            at = 0;
            outputs = 0;
            change = 0;
            to = 0;
            if (!readsPorts() || !accepts(':') || !readsPattern(bits)) {
                return false;
            }
            if (accepts('!')) {
                return at == length;
            }
            return accepts('>') && readsOutputs() && readsRewriting(bits) && at == length;
        }

        Rule readOne() {
            return new Rule(ports, care, value, outputs, change, to, true);
        }

        private boolean accepts(char wanted) {
            if (at >= length || characters[at] != wanted) {
                return false;
            }
            at++;
            return true;
        }

        private boolean readsPorts() {
            ports = accepts('*') ? ALL_PORTS : readDigits();
            return ports != 0;
        }

        private boolean readsOutputs() {
            outputs = readDigits();
            return outputs != 0;
        }

        /** Ascending digits are those that this loop meets in its own order. */
        private int readDigits() {
            int set = 0;
            for (int port = 0; port < PORTS; port++) {
                if (accepts((char) ('0' + port))) {
                    set |= 1 << port;
                }
            }
            return set;
        }

        private boolean readsRewriting(int bits) {
            if (at == length) {
                return true;
            }
            int cubeCare = care;
            int cubeValue = value;
            boolean read = accepts('=') && readsPattern(bits);
            change = care;
            to = value;
            care = cubeCare;
            value = cubeValue;
            return read;
        }

        private boolean readsPattern(int bits) {
            care = 0;
            value = 0;
            for (int bit = bits - 1; bit >= 0; bit--) {
                if (accepts('1')) {
                    care |= 1 << bit;
                    value |= 1 << bit;
                } else if (accepts('0')) {
                    care |= 1 << bit;
                } else if (!accepts('*')) {
                    return false;
                }
            }
            return true;
        }
    }

    /** Writes rules; no rule is longer than a text may be. */
    private static final class RuleWriter {
        final char[] characters = new char[MOST_CHARACTERS];
        int length;

        void write(Rule rule, int bits) {
            length = 0;
            if (rule.ports == ALL_PORTS) {
                put('*');
            } else {
                putDigits(rule.ports);
            }
            put(':');
            putPattern(rule.care, rule.value, bits);
            if (rule.outputs == 0) {
                put('!');
                return;
            }
            put('>');
            putDigits(rule.outputs);
            if (rule.change != 0) {
                put('=');
                putPattern(rule.change, rule.to, bits);
            }
        }

        private void put(char character) {
            if (length < MOST_CHARACTERS) {
                characters[length] = character;
                length++;
            }
        }

        private void putDigits(int ports) {
            for (int port = 0; port < PORTS; port++) {
                if (hasPort(ports, port)) {
                    put((char) ('0' + port));
                }
            }
        }

        private void putPattern(int care, int value, int bits) {
            for (int bit = bits - 1; bit >= 0; bit--) {
                if ((care >> bit & 1) == 0) {
                    put('*');
                } else {
                    put((value >> bit & 1) != 0 ? '1' : '0');
                }
            }
        }
    }
}
