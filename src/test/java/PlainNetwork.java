import java.util.ArrayDeque;
import java.util.ArrayList;
import java.util.Deque;
import java.util.List;
import java.util.Set;
import java.util.TreeSet;

/**
 * The document's words done in the most literal way, packet by packet and without any thrift, as a
 * measure for the class. It shares no idea with it: no sets as longs inside, whole copies of all
 * rules for undo, every set of rules tried for a cut.
 */
final class PlainNetwork {
    private static final int NO_SUCH_PLACE = -1;
    private static final int NO_SUCH_RULE = -2;
    private static final int BAD_VALUE = -3;
    private static final int NOT_POSSIBLE = -4;
    private static final int FULL = -5;
    private static final int NONE = -6;
    private static final long NO_VALUE = Long.MIN_VALUE;

    /** A rule; outputs is empty if it drops packets. Patterns have a character for each bit. */
    private static final class PlainRule {
        Set<Integer> ports = new TreeSet<>();
        char[] pattern;
        Set<Integer> outputs = new TreeSet<>();
        char[] rewriting;
        boolean on = true;

        PlainRule copy() {
            PlainRule copy = new PlainRule();
            copy.ports = new TreeSet<>(ports);
            copy.pattern = pattern.clone();
            copy.outputs = new TreeSet<>(outputs);
            copy.rewriting = rewriting.clone();
            copy.on = on;
            return copy;
        }
    }

    private static final class PlainPolicy {
        boolean always;
        int box;
        int port;
        int toBox;
        int toPort;
        char[] pattern;
    }

    private record Arrival(int box, int port, int header) {
    }

    private int bits = 4;
    private int[][] link = new int[6][4];
    private List<List<PlainRule>> boxes = new ArrayList<>();
    private final Deque<List<List<PlainRule>>> history = new ArrayDeque<>();
    private final List<PlainPolicy> policies = new ArrayList<>();
    private int injectionBox;
    private int injectionPort;
    private char[] injectionPattern;
    private String text = "";

    PlainNetwork() {
        startAnew(4);
    }

    private void startAnew(int newBits) {
        bits = newBits;
        boxes = new ArrayList<>();
        for (int i = 0; i < 6; i++) {
            boxes.add(new ArrayList<>());
            link[i] = new int[] {-1, -1, -1, -1};
        }
        history.clear();
        policies.clear();
        injectionBox = 0;
        injectionPort = 0;
        injectionPattern = pattern(0, 0);
    }

    // ---- helpers

    private boolean box(int box) {
        return 0 <= box && box <= 5;
    }

    private boolean place(int box, int port) {
        return box(box) && 0 <= port && port <= 3;
    }

    private boolean header(int number) {
        return 0 <= number && number <= (1 << bits) - 1;
    }

    private boolean ruleThere(int box, int rule) {
        return 0 <= rule && rule < boxes.get(box).size();
    }

    /** The pattern with the highest bit first, as in a text. */
    private char[] pattern(int care, int value) {
        char[] pattern = new char[bits];
        for (int bit = 0; bit < bits; bit++) {
            boolean cares = (care & (1 << bit)) != 0;
            boolean one = (value & (1 << bit)) != 0;
            pattern[bits - 1 - bit] = !cares ? '*' : one ? '1' : '0';
        }
        return pattern;
    }

    private int careOf(char[] pattern) {
        int care = 0;
        for (char c : pattern) {
            care = 2 * care + (c == '*' ? 0 : 1);
        }
        return care;
    }

    private int valueOf(char[] pattern) {
        int value = 0;
        for (char c : pattern) {
            value = 2 * value + (c == '1' ? 1 : 0);
        }
        return value;
    }

    private String binary(int header) {
        StringBuilder digits = new StringBuilder(Integer.toBinaryString(header));
        while (digits.length() < bits) {
            digits.insert(0, '0');
        }
        return digits.toString();
    }

    private boolean matches(char[] pattern, int header) {
        String digits = binary(header);
        for (int i = 0; i < bits; i++) {
            if (pattern[i] != '*' && pattern[i] != digits.charAt(i)) {
                return false;
            }
        }
        return true;
    }

    private int rewrite(char[] rewriting, int header) {
        char[] digits = binary(header).toCharArray();
        for (int i = 0; i < bits; i++) {
            if (rewriting[i] != '*') {
                digits[i] = rewriting[i];
            }
        }
        return Integer.parseInt(new String(digits), 2);
    }

    private Set<Integer> portSet(int ports) {
        Set<Integer> set = new TreeSet<>();
        for (int port = 0; port < 4; port++) {
            if ((ports & (1 << port)) != 0) {
                set.add(port);
            }
        }
        return set;
    }

    private int portNumber(Set<Integer> ports) {
        int number = 0;
        for (int port : ports) {
            number += 1 << port;
        }
        return number;
    }

    private List<Integer> headersOf(char[] pattern) {
        List<Integer> headers = new ArrayList<>();
        for (int h = 0; h < 1 << bits; h++) {
            if (matches(pattern, h)) {
                headers.add(h);
            }
        }
        return headers;
    }

    private void remember() {
        List<List<PlainRule>> copy = new ArrayList<>();
        for (List<PlainRule> list : boxes) {
            List<PlainRule> rules = new ArrayList<>();
            for (PlainRule rule : list) {
                rules.add(rule.copy());
            }
            copy.add(rules);
        }
        history.addLast(copy);
        if (history.size() > 12) {
            history.removeFirst();
        }
    }

    // ---- forwarding

    private PlainRule handler(Arrival arrival) {
        for (PlainRule rule : boxes.get(arrival.box)) {
            if (rule.on && rule.ports.contains(arrival.port) && matches(rule.pattern, arrival.header)) {
                return rule;
            }
        }
        return null;
    }

    private List<Arrival> followers(Arrival arrival) {
        List<Arrival> next = new ArrayList<>();
        PlainRule rule = handler(arrival);
        if (rule != null) {
            for (int port : rule.outputs) {
                int far = link[arrival.box][port];
                if (far >= 0) {
                    next.add(new Arrival(far / 10, far % 10, rewrite(rule.rewriting, arrival.header)));
                }
            }
        }
        return next;
    }

    /** All arrivals that follow from the ones given, with them. */
    private List<Arrival> closure(List<Arrival> starts) {
        List<Arrival> all = new ArrayList<>();
        boolean[] seen = new boolean[6 * 4 * 32];
        for (Arrival start : starts) {
            addOnce(all, seen, start);
        }
        for (int i = 0; i < all.size(); i++) {
            for (Arrival next : followers(all.get(i))) {
                addOnce(all, seen, next);
            }
        }
        return all;
    }

    private void addOnce(List<Arrival> all, boolean[] seen, Arrival arrival) {
        int index = (arrival.box * 4 + arrival.port) * 32 + arrival.header;
        if (!seen[index]) {
            seen[index] = true;
            all.add(arrival);
        }
    }

    private List<Arrival> injected() {
        List<Arrival> starts = new ArrayList<>();
        for (int h : headersOf(injectionPattern)) {
            starts.add(new Arrival(injectionBox, injectionPort, h));
        }
        return starts;
    }

    private Set<Integer> deliveredFrom(List<Arrival> starts, int box, int port) {
        Set<Integer> headers = new TreeSet<>();
        if (link[box][port] >= 0) {
            return headers;
        }
        for (Arrival arrival : closure(starts)) {
            PlainRule rule = handler(arrival);
            if (arrival.box == box && rule != null && rule.outputs.contains(port)) {
                headers.add(rewrite(rule.rewriting, arrival.header));
            }
        }
        return headers;
    }

    private long asLong(Set<Integer> headers) {
        long set = 0;
        for (int h : headers) {
            set |= 1L << h;
        }
        return set;
    }

    private Set<Integer> headersAt(int box, int port) {
        Set<Integer> headers = new TreeSet<>();
        for (Arrival arrival : closure(injected())) {
            if (arrival.box == box && arrival.port == port) {
                headers.add(arrival.header);
            }
        }
        return headers;
    }

    private boolean injectedHeader(int header) {
        return header(header) && matches(injectionPattern, header);
    }

    // ---- the face

    long reset(int newBits) {
        if (newBits < 1 || newBits > 5) {
            return BAD_VALUE;
        }
        int previous = bits;
        startAnew(newBits);
        return previous;
    }

    private int links() {
        int ends = 0;
        for (int[] row : link) {
            for (int far : row) {
                ends += far >= 0 ? 1 : 0;
            }
        }
        return ends / 2;
    }

    long connect(int box, int port, int otherBox, int otherPort) {
        if (!place(box, port) || !place(otherBox, otherPort)) {
            return NO_SUCH_PLACE;
        }
        if (link[box][port] >= 0 || link[otherBox][otherPort] >= 0
            || box == otherBox && port == otherPort) {
            return NOT_POSSIBLE;
        }
        link[box][port] = 10 * otherBox + otherPort;
        link[otherBox][otherPort] = 10 * box + port;
        return links();
    }

    long disconnect(int box, int port) {
        if (!place(box, port)) {
            return NO_SUCH_PLACE;
        }
        int far = link[box][port];
        if (far < 0) {
            return NONE;
        }
        link[box][port] = -1;
        link[far / 10][far % 10] = -1;
        return links();
    }

    long other(int box, int port) {
        if (!place(box, port)) {
            return NO_SUCH_PLACE;
        }
        return link[box][port] < 0 ? NONE : link[box][port];
    }

    long insertDrop(int box, int place, int ports, int care, int value) {
        return insert(box, place, ports, care, value, 0);
    }

    long insertForward(int box, int place, int ports, int care, int value, int outputs) {
        if (box(box) && (outputs < 1 || outputs > 15)) {
            return BAD_VALUE;
        }
        return insert(box, place, ports, care, value, outputs);
    }

    private long insert(int box, int place, int ports, int care, int value, int outputs) {
        if (!box(box)) {
            return NO_SUCH_PLACE;
        }
        List<PlainRule> list = boxes.get(box);
        if (place < 0 || place > list.size() || ports < 1 || ports > 15 || !header(care)
            || !header(value)) {
            return BAD_VALUE;
        }
        if (list.size() == 6) {
            return FULL;
        }
        remember();
        PlainRule rule = new PlainRule();
        rule.ports = portSet(ports);
        rule.pattern = pattern(care, value);
        rule.outputs = portSet(outputs);
        rule.rewriting = pattern(0, 0);
        list.add(place, rule);
        return list.size();
    }

    long setRewriting(int box, int rule, int change, int to) {
        if (!box(box)) {
            return NO_SUCH_PLACE;
        }
        if (!ruleThere(box, rule)) {
            return NO_SUCH_RULE;
        }
        if (!header(change) || !header(to)) {
            return BAD_VALUE;
        }
        PlainRule changed = boxes.get(box).get(rule);
        if (changed.outputs.isEmpty()) {
            return NOT_POSSIBLE;
        }
        remember();
        char[] old = changed.rewriting;
        changed.rewriting = pattern(change, to);
        for (int h = 0; h < 1 << bits; h++) {
            if (rewrite(old, h) != rewrite(changed.rewriting, h)) {
                return 1;
            }
        }
        return 0;
    }

    long removeRule(int box, int rule) {
        if (!box(box)) {
            return NO_SUCH_PLACE;
        }
        if (!ruleThere(box, rule)) {
            return NO_SUCH_RULE;
        }
        remember();
        boxes.get(box).remove(rule);
        return boxes.get(box).size();
    }

    long moveRule(int box, int from, int to) {
        if (!box(box)) {
            return NO_SUCH_PLACE;
        }
        if (!ruleThere(box, from) || !ruleThere(box, to)) {
            return NO_SUCH_RULE;
        }
        remember();
        PlainRule moved = boxes.get(box).remove(from);
        boxes.get(box).add(to, moved);
        return from == to ? 0 : 1;
    }

    long switchRule(int box, int rule, boolean on) {
        if (!box(box)) {
            return NO_SUCH_PLACE;
        }
        if (!ruleThere(box, rule)) {
            return NO_SUCH_RULE;
        }
        remember();
        boolean was = boxes.get(box).get(rule).on;
        boxes.get(box).get(rule).on = on;
        return was == on ? 0 : 1;
    }

    long undo() {
        if (history.isEmpty()) {
            return NONE;
        }
        boxes = history.removeLast();
        return history.size();
    }

    long rule(int box, int rule, int what) {
        if (!box(box)) {
            return NO_SUCH_PLACE;
        }
        if (!ruleThere(box, rule)) {
            return NO_SUCH_RULE;
        }
        PlainRule asked = boxes.get(box).get(rule);
        return switch (what) {
            case 0 -> portNumber(asked.ports);
            case 1 -> careOf(asked.pattern);
            case 2 -> valueOf(asked.pattern);
            case 3 -> portNumber(asked.outputs);
            case 4 -> careOf(asked.rewriting);
            case 5 -> valueOf(asked.rewriting);
            case 6 -> asked.on ? 1 : 0;
            default -> BAD_VALUE;
        };
    }

    long count(int what) {
        int rules = 0;
        for (List<PlainRule> list : boxes) {
            rules += list.size();
        }
        return switch (what) {
            case 0 -> bits;
            case 1 -> links();
            case 2 -> rules;
            case 3 -> policies.size();
            case 4 -> history.size();
            default -> BAD_VALUE;
        };
    }

    long shadowed(int box) {
        if (!box(box)) {
            return NO_SUCH_PLACE;
        }
        int set = 0;
        List<PlainRule> list = boxes.get(box);
        for (int i = 0; i < list.size(); i++) {
            PlainRule rule = list.get(i);
            boolean handles = false;
            for (int port : rule.ports) {
                for (int h : headersOf(rule.pattern)) {
                    handles |= handler(new Arrival(box, port, h)) == rule;
                }
            }
            if (rule.on && !handles) {
                set |= 1 << i;
            }
        }
        return set;
    }

    long inject(int box, int port, int care, int value) {
        if (!place(box, port)) {
            return NO_SUCH_PLACE;
        }
        if (!header(care) || !header(value)) {
            return BAD_VALUE;
        }
        injectionBox = box;
        injectionPort = port;
        injectionPattern = pattern(care, value);
        return headersOf(injectionPattern).size();
    }

    long arriving(int box, int port) {
        return place(box, port) ? asLong(headersAt(box, port)) : NO_VALUE;
    }

    long delivered(int box, int port) {
        return place(box, port) ? asLong(deliveredFrom(injected(), box, port)) : NO_VALUE;
    }

    long arrivals(int box, int what) {
        if (!box(box)) {
            return NO_SUCH_PLACE;
        }
        if (what < 0 || what > 2) {
            return BAD_VALUE;
        }
        int sum = 0;
        for (Arrival arrival : closure(injected())) {
            if (arrival.box == box) {
                PlainRule rule = handler(arrival);
                boolean lost = rule == null;
                boolean dropped = rule != null && rule.outputs.isEmpty();
                sum += what == 0 || what == 1 && dropped || what == 2 && lost ? 1 : 0;
            }
        }
        return sum;
    }

    long hits(int box, int rule) {
        if (!box(box)) {
            return NO_SUCH_PLACE;
        }
        if (!ruleThere(box, rule)) {
            return NO_SUCH_RULE;
        }
        int sum = 0;
        for (Arrival arrival : closure(injected())) {
            if (arrival.box == box && handler(arrival) == boxes.get(box).get(rule)) {
                sum++;
            }
        }
        return sum;
    }

    long cube(int box, int port, int k, int what) {
        if (!place(box, port)) {
            return NO_SUCH_PLACE;
        }
        if (k < 0 || what < 0 || what > 1) {
            return BAD_VALUE;
        }
        Set<Integer> arriving = headersAt(box, port);
        Set<Integer> left = new TreeSet<>(arriving);
        List<char[]> cover = new ArrayList<>();
        while (!left.isEmpty()) {
            char[] cube = binary(left.iterator().next()).toCharArray();
            for (int i = bits - 1; i >= 0; i--) {
                char old = cube[i];
                cube[i] = '*';
                if (!arriving.containsAll(headersOf(cube))) {
                    cube[i] = old;
                }
            }
            cover.add(cube);
            left.removeAll(headersOf(cube));
        }
        if (k >= cover.size()) {
            return NONE;
        }
        return what == 0 ? careOf(cover.get(k)) : valueOf(cover.get(k));
    }

    long origin(int box, int port, int header) {
        if (!place(box, port)) {
            return NO_SUCH_PLACE;
        }
        if (!header(header)) {
            return BAD_VALUE;
        }
        for (Arrival start : injected()) {
            if (closure(List.of(start)).contains(new Arrival(box, port, header))) {
                return start.header;
            }
        }
        return NONE;
    }

    long distance(int header, int box, int port) {
        if (!injectedHeader(header)) {
            return BAD_VALUE;
        }
        if (!place(box, port)) {
            return NO_SUCH_PLACE;
        }
        Set<String> known = new TreeSet<>();
        List<Arrival> front = List.of(new Arrival(injectionBox, injectionPort, header));
        for (int links = 0; !front.isEmpty(); links++) {
            List<Arrival> next = new ArrayList<>();
            for (Arrival arrival : front) {
                if (arrival.box == box && arrival.port == port) {
                    return links;
                }
                if (known.add(arrival.toString())) {
                    next.addAll(followers(arrival));
                }
            }
            front = next;
        }
        return NONE;
    }

    /** The arrivals of the trace; the way it ends is put into end[0]. */
    private List<Arrival> traced(int header, int[] end) {
        List<Arrival> trace = new ArrayList<>();
        Arrival at = new Arrival(injectionBox, injectionPort, header);
        while (true) {
            trace.add(at);
            PlainRule rule = handler(at);
            if (rule == null) {
                end[0] = 2;
                return trace;
            }
            if (rule.outputs.isEmpty()) {
                end[0] = 1;
                return trace;
            }
            if (link[at.box][rule.outputs.iterator().next()] < 0) {
                end[0] = 0;
                return trace;
            }
            at = followers(at).get(0);
            if (trace.contains(at)) {
                end[0] = 3;
                return trace;
            }
        }
    }

    long trace(int header, int k) {
        if (!injectedHeader(header) || k < 0) {
            return BAD_VALUE;
        }
        List<Arrival> trace = traced(header, new int[1]);
        if (k >= trace.size()) {
            return NONE;
        }
        Arrival at = trace.get(k);
        return 1000 * at.box + 100 * at.port + at.header;
    }

    long traceEnd(int header) {
        if (!injectedHeader(header)) {
            return BAD_VALUE;
        }
        int[] end = new int[1];
        traced(header, end);
        return end[0];
    }

    long loops() {
        Set<Integer> headers = new TreeSet<>();
        for (Arrival start : injected()) {
            for (Arrival arrival : closure(List.of(start))) {
                if (closure(followers(arrival)).contains(arrival)) {
                    headers.add(start.header);
                    break;
                }
            }
        }
        return asLong(headers);
    }

    // ---- cuts

    private boolean stops(List<PlainRule> off, int box, int port) {
        for (PlainRule rule : off) {
            rule.on = false;
        }
        boolean nothing = deliveredFrom(injected(), box, port).isEmpty();
        for (PlainRule rule : off) {
            rule.on = true;
        }
        return nothing;
    }

    /** The rules of the cut, or null. */
    private List<PlainRule> cut(int box, int port) {
        List<PlainRule> on = new ArrayList<>();
        for (List<PlainRule> list : boxes) {
            for (PlainRule rule : list) {
                if (rule.on) {
                    on.add(rule);
                }
            }
        }
        if (stops(List.of(), box, port)) {
            return List.of();
        }
        for (int size = 1; size <= 3; size++) {
            List<PlainRule> found = cut(on, 0, size, new ArrayList<>(), box, port);
            if (found != null) {
                return found;
            }
        }
        return null;
    }

    private List<PlainRule> cut(List<PlainRule> on, int from, int more, List<PlainRule> chosen,
            int box, int port) {
        if (more == 0) {
            return stops(chosen, box, port) ? new ArrayList<>(chosen) : null;
        }
        for (int i = from; i < on.size(); i++) {
            chosen.add(on.get(i));
            List<PlainRule> found = cut(on, i + 1, more - 1, chosen, box, port);
            chosen.remove(chosen.size() - 1);
            if (found != null) {
                return found;
            }
        }
        return null;
    }

    long cutSize(int box, int port) {
        if (!place(box, port)) {
            return NO_SUCH_PLACE;
        }
        List<PlainRule> cut = cut(box, port);
        return cut == null ? NONE : cut.size();
    }

    long cutRule(int box, int port, int k) {
        if (!place(box, port)) {
            return NO_SUCH_PLACE;
        }
        if (k < 0) {
            return BAD_VALUE;
        }
        List<PlainRule> cut = cut(box, port);
        if (cut == null || k >= cut.size()) {
            return NONE;
        }
        for (int b = 0; b < 6; b++) {
            for (int r = 0; r < boxes.get(b).size(); r++) {
                if (boxes.get(b).get(r) == cut.get(k)) {
                    return 10 * b + r;
                }
            }
        }
        throw new IllegalStateException("the cut has a rule of no box");
    }

    // ---- policies

    long addPolicy(boolean always, int box, int port, int toBox, int toPort) {
        if (!place(box, port) || !place(toBox, toPort)) {
            return NO_SUCH_PLACE;
        }
        if (policies.size() == 8) {
            return FULL;
        }
        PlainPolicy policy = new PlainPolicy();
        policy.always = always;
        policy.box = box;
        policy.port = port;
        policy.toBox = toBox;
        policy.toPort = toPort;
        policy.pattern = pattern(0, 0);
        policies.add(policy);
        return policies.size() - 1;
    }

    long setPolicyCube(int policy, int care, int value) {
        if (policy < 0 || policy >= policies.size() || !header(care) || !header(value)) {
            return BAD_VALUE;
        }
        policies.get(policy).pattern = pattern(care, value);
        return headersOf(policies.get(policy).pattern).size();
    }

    long counterexamples(int policy) {
        if (policy < 0 || policy >= policies.size()) {
            return NO_VALUE;
        }
        PlainPolicy asked = policies.get(policy);
        Set<Integer> headers = new TreeSet<>();
        for (int h : headersOf(asked.pattern)) {
            List<Arrival> start = List.of(new Arrival(asked.box, asked.port, h));
            boolean delivered = !deliveredFrom(start, asked.toBox, asked.toPort).isEmpty();
            if (delivered != asked.always) {
                headers.add(h);
            }
        }
        return asLong(headers);
    }

    long violated() {
        int set = 0;
        for (int i = 0; i < policies.size(); i++) {
            set |= counterexamples(i) != 0 ? 1 << i : 0;
        }
        return set;
    }

    long clearPolicies() {
        int size = policies.size();
        policies.clear();
        return size;
    }

    // ---- texts

    long type(char character) {
        if (text.length() == 40) {
            return FULL;
        }
        text += character;
        return text.length();
    }

    long clearText() {
        int length = text.length();
        text = "";
        return length;
    }

    private static final String DIGITS =
        "(0|1|2|3|01|02|03|12|13|23|012|013|023|123|0123)";

    private boolean isRuleText(String tried) {
        String pattern = "[01*]{" + bits + "}";
        return tried.matches(
            "(\\*|" + DIGITS + "):" + pattern + "(!|>" + DIGITS + "(=" + pattern + ")?)");
    }

    /** Whether some text that begins so is a rule. */
    private boolean isBeginning(String tried) {
        String star = "*".repeat(bits);
        List<String> tails = new ArrayList<>(List.of("", "0:", "*:", ":", "0", "3", "=", ">0", "!"));
        for (int n = 0; n <= bits; n++) {
            String rest = star.substring(0, n);
            tails.addAll(List.of(rest, rest + "!", ":" + rest + "!", "*:" + rest + "!"));
        }
        for (String tail : tails) {
            if (isRuleText(tried + tail)) {
                return true;
            }
        }
        return false;
    }

    /** The fault, or -1: the first index behind which no beginning of a rule goes on. */
    private int fault() {
        if (isRuleText(text)) {
            return -1;
        }
        for (int i = 0; i < text.length(); i++) {
            if (!isBeginning(text.substring(0, i + 1))) {
                return i;
            }
        }
        return text.length();
    }

    long readRule(int box) {
        if (!box(box)) {
            return NO_SUCH_PLACE;
        }
        if (fault() >= 0) {
            return -100 - fault();
        }
        if (boxes.get(box).size() == 6) {
            return FULL;
        }
        remember();
        PlainRule rule = new PlainRule();
        String ports = text.substring(0, text.indexOf(':'));
        String rest = text.substring(text.indexOf(':') + 1);
        rule.ports = ports.equals("*") ? portSet(15) : digitSet(ports);
        rule.pattern = rest.substring(0, bits).toCharArray();
        String action = rest.substring(bits);
        rule.rewriting = pattern(0, 0);
        if (!action.equals("!")) {
            String[] parts = action.substring(1).split("=");
            rule.outputs = digitSet(parts[0]);
            if (parts.length > 1) {
                rule.rewriting = parts[1].toCharArray();
            }
        }
        boxes.get(box).add(rule);
        return boxes.get(box).size();
    }

    private Set<Integer> digitSet(String digits) {
        Set<Integer> set = new TreeSet<>();
        for (char digit : digits.toCharArray()) {
            set.add(digit - '0');
        }
        return set;
    }

    private String digits(Set<Integer> ports) {
        StringBuilder digits = new StringBuilder();
        for (int port : ports) {
            digits.append(port);
        }
        return digits.toString();
    }

    long ruleText(int box, int rule, int i) {
        if (!box(box)) {
            return NO_SUCH_PLACE;
        }
        if (!ruleThere(box, rule)) {
            return NO_SUCH_RULE;
        }
        if (i < 0) {
            return BAD_VALUE;
        }
        PlainRule asked = boxes.get(box).get(rule);
        String ports = asked.ports.size() == 4 ? "*" : digits(asked.ports);
        String action = asked.outputs.isEmpty() ? "!" : ">" + digits(asked.outputs);
        String rewriting = new String(asked.rewriting);
        String written = ports + ":" + new String(asked.pattern) + action
            + (rewriting.equals("*".repeat(bits)) ? "" : "=" + rewriting);
        return i < written.length() ? written.charAt(i) : NONE;
    }
}
