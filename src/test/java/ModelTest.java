import java.util.Random;

/**
 * Long runs of calls, made from fixed seeds, on the class and on PlainNetwork side by side: every
 * answer must be the same. The runs end with calls that look at the whole state.
 */
public final class ModelTest {
    private static final int RUNS = 400;
    private static final int CALLS = 512;
    private static final int LOOKS = 150;
    private static final int[] ODD = {-1, Integer.MIN_VALUE, Integer.MAX_VALUE, 6, 16, 32, 64, -7};

    private static int wrong = 0;
    private static int compared = 0;

    private final Random random;
    private final HeaderSpaceNetwork network = new HeaderSpaceNetwork();
    private final PlainNetwork plain = new PlainNetwork();
    private final int run;
    /** How often a call has an argument out of range, in percent. */
    private final int oddness;
    private int cutsLeft;

    private ModelTest(int run) {
        this.run = run;
        this.random = new Random(7919L * run + 1);
        this.oddness = run % 4 == 0 ? 12 : 2;
        this.cutsLeft = run % 10 == 0 ? 40 : 5;
    }

    public static void main(String[] args) {
        for (int run = 0; run < RUNS && wrong < 20; run++) {
            new ModelTest(run).go();
        }
        System.out.println(compared + " calls, " + wrong + " wrong");
        if (wrong != 0) {
            System.exit(1);
        }
    }

    private void go() {
        int calls = 0;
        if (run % 3 != 0) {
            calls = build();
        }
        while (calls < CALLS - LOOKS) {
            calls += oneCall();
        }
        for (int i = 0; i < LOOKS; i++) {
            look();
        }
    }

    /** Makes a network with many links and rules at once, so that there is much to find. */
    private int build() {
        int calls = 0;
        if (random.nextInt(3) != 0) {
            int bits = 1 + random.nextInt(5);
            due("reset(" + bits + ")", network.reset(bits), plain.reset(bits));
            calls++;
        }
        int links = 4 + random.nextInt(16);
        for (int i = 0; i < links; i++) {
            connect();
        }
        int rules = 3 + random.nextInt(run % 10 == 0 ? 14 : 30);
        for (int i = 0; i < rules; i++) {
            forward();
        }
        int b = random.nextInt(6);
        int p = random.nextInt(4);
        due("inject(" + b + ", " + p + ", 0, 0)", network.inject(b, p, 0, 0),
            plain.inject(b, p, 0, 0));
        return calls + links + rules + 1;
    }

    private void due(String call, long got, long want) {
        compared++;
        if (got != want) {
            wrong++;
            System.out.println(
                "run " + run + ": " + call + " answered " + got + ", due is " + want);
        }
    }

    // ---- arguments

    private int below(int bound) {
        if (random.nextInt(100) < oddness) {
            return random.nextBoolean() ? bound : ODD[random.nextInt(ODD.length)];
        }
        return random.nextInt(bound);
    }

    private int box() {
        return below(6);
    }

    private int port() {
        return below(4);
    }

    private int size(int box) {
        int size = 0;
        while (plain.rule(box, size, 0) >= 0) {
            size++;
        }
        return size;
    }

    private int ruleOf(int box) {
        return below(Math.max(1, size(box)));
    }

    private int header() {
        return below(1 << plain.count(0));
    }

    /** Few bits in care, so that cubes are large and meet. */
    private int care() {
        int care = header();
        return care > 0 && random.nextInt(3) != 0 ? care & header() : care;
    }

    private int ports() {
        if (random.nextInt(100) < oddness) {
            return below(17);
        }
        return random.nextInt(3) == 0 ? 15 : 1 + random.nextInt(15);
    }

    /** 10 * box + port of a place where something arrives, if some tries find one. */
    private int busyPlace() {
        for (int i = 0; i < 30; i++) {
            int b = random.nextInt(6);
            int p = random.nextInt(4);
            if (plain.arriving(b, p) != 0) {
                return 10 * b + p;
            }
        }
        return 0;
    }

    /** The same for a place where something is delivered. */
    private int deliveryPlace() {
        for (int i = 0; i < 30; i++) {
            int b = random.nextInt(6);
            int p = random.nextInt(4);
            if (plain.delivered(b, p) != 0) {
                return 10 * b + p;
            }
        }
        return 0;
    }

    private int injectedHeader() {
        for (int i = 0; i < 30; i++) {
            int h = random.nextInt(1 << plain.count(0));
            if (plain.traceEnd(h) >= 0) {
                return h;
            }
        }
        return 0;
    }

    // ---- calls

    private void connect() {
        int b = box();
        int p = port();
        int c = box();
        int q = port();
        due("connect(" + b + ", " + p + ", " + c + ", " + q + ")", network.connect(b, p, c, q),
            plain.connect(b, p, c, q));
    }

    private void forward() {
        int b = box();
        int at = below(size(b) + 1);
        int p = ports();
        int c = care();
        int v = header();
        int o = random.nextInt(3) == 0 ? ports() : 1 << random.nextInt(4);
        due("insertForward(" + b + ", " + at + ", " + p + ", " + c + ", " + v + ", " + o + ")",
            network.insertForward(b, at, p, c, v, o), plain.insertForward(b, at, p, c, v, o));
    }

    private void drop() {
        int b = box();
        int at = below(size(b) + 1);
        int p = ports();
        int c = header();
        int v = header();
        due("insertDrop(" + b + ", " + at + ", " + p + ", " + c + ", " + v + ")",
            network.insertDrop(b, at, p, c, v), plain.insertDrop(b, at, p, c, v));
    }

    /** Carries out a call that may change something, or one that asks; returns how many. */
    private int oneCall() {
        int kind = random.nextInt(100);
        if (kind < 10) {
            connect();
        } else if (kind < 22) {
            forward();
        } else if (kind < 25) {
            drop();
        } else if (kind < 45) {
            edit();
        } else if (kind < 49) {
            setInjection();
        } else if (kind < 58) {
            policy();
        } else if (kind < 63) {
            return text();
        } else if (kind < 65) {
            rare();
        } else {
            look();
        }
        return 1;
    }

    private void edit() {
        int b = box();
        int r = ruleOf(b);
        int s = ruleOf(b);
        int c = header();
        int v = header();
        boolean on = random.nextBoolean();
        switch (random.nextInt(8)) {
            case 0, 1, 2 -> due("setRewriting(" + b + ", " + r + ", " + c + ", " + v + ")",
                network.setRewriting(b, r, c, v), plain.setRewriting(b, r, c, v));
            case 3 -> due("removeRule(" + b + ", " + r + ")", network.removeRule(b, r),
                plain.removeRule(b, r));
            case 4 -> due("moveRule(" + b + ", " + r + ", " + s + ")", network.moveRule(b, r, s),
                plain.moveRule(b, r, s));
            case 5, 6 -> due("switchRule(" + b + ", " + r + ", " + on + ")",
                network.switchRule(b, r, on), plain.switchRule(b, r, on));
            default -> due("undo()", network.undo(), plain.undo());
        }
    }

    private void setInjection() {
        int b = box();
        int p = port();
        int c = random.nextBoolean() ? 0 : care();
        int v = header();
        due("inject(" + b + ", " + p + ", " + c + ", " + v + ")", network.inject(b, p, c, v),
            plain.inject(b, p, c, v));
    }

    private void policy() {
        int b = box();
        int p = port();
        int c = box();
        int q = port();
        boolean always = random.nextBoolean();
        int number = below(8);
        int care = care();
        int value = header();
        if (random.nextBoolean()) {
            due("addPolicy(" + always + ", " + b + ", " + p + ", " + c + ", " + q + ")",
                network.addPolicy(always, b, p, c, q), plain.addPolicy(always, b, p, c, q));
        } else {
            due("setPolicyCube(" + number + ", " + care + ", " + value + ")",
                network.setPolicyCube(number, care, value),
                plain.setPolicyCube(number, care, value));
        }
    }

    /** Types a rule, often with a fault, and reads it. */
    private int text() {
        int calls = 0;
        if (random.nextInt(8) != 0) {
            due("clearText()", network.clearText(), plain.clearText());
            calls++;
        }
        for (char character : randomRule().toCharArray()) {
            due("type(" + (int) character + ")", network.type(character), plain.type(character));
            calls++;
        }
        int b = box();
        due("readRule(" + b + ")", network.readRule(b), plain.readRule(b));
        return calls + 1;
    }

    private String randomRule() {
        StringBuilder rule = new StringBuilder();
        rule.append(random.nextInt(3) == 0 ? "*" : randomDigits()).append(':');
        rule.append(randomPattern());
        if (random.nextInt(4) == 0) {
            rule.append('!');
        } else {
            rule.append('>').append(randomDigits());
            if (random.nextBoolean()) {
                rule.append('=').append(randomPattern());
            }
        }
        if (random.nextInt(3) == 0) {
            int at = random.nextInt(rule.length());
            switch (random.nextInt(4)) {
                case 0 -> rule.setLength(at);
                case 1 -> rule.deleteCharAt(at);
                case 2 -> rule.insert(at, "0123*:>!=4 \u20ac".charAt(random.nextInt(12)));
                default -> rule.setCharAt(at, "0123*:>!=4x\u0000".charAt(random.nextInt(12)));
            }
        }
        return rule.toString();
    }

    private String randomDigits() {
        int set = 1 + random.nextInt(15);
        StringBuilder digits = new StringBuilder();
        for (int port = 0; port < 4; port++) {
            if ((set >> port & 1) != 0) {
                digits.append(port);
            }
        }
        return digits.toString();
    }

    private String randomPattern() {
        StringBuilder pattern = new StringBuilder();
        for (int i = 0; i < plain.count(0); i++) {
            pattern.append("01**".charAt(random.nextInt(4)));
        }
        return pattern.toString();
    }

    private void rare() {
        int b = box();
        int p = port();
        switch (random.nextInt(12)) {
            case 0 -> {
                int bits = below(7);
                due("reset(" + bits + ")", network.reset(bits), plain.reset(bits));
            }
            case 1 -> due("clearPolicies()", network.clearPolicies(), plain.clearPolicies());
            default -> due("disconnect(" + b + ", " + p + ")", network.disconnect(b, p),
                plain.disconnect(b, p));
        }
    }

    /** A call that changes nothing. */
    private void look() {
        int b = box();
        int p = port();
        int h = header();
        int kind = random.nextInt(20);
        if (random.nextInt(4) != 0) {
            int place = kind == 5 || kind == 16 ? deliveryPlace() : busyPlace();
            b = place / 10;
            p = place % 10;
            h = kind == 10 ? h : injectedHeader();
        }
        int r = ruleOf(b);
        int k = below(5);
        int what = below(7);
        switch (kind) {
            case 0 -> due("other(" + b + ", " + p + ")", network.other(b, p), plain.other(b, p));
            case 1 -> due("rule(" + b + ", " + r + ", " + what + ")", network.rule(b, r, what),
                plain.rule(b, r, what));
            case 2 -> due("count(" + what + ")", network.count(what), plain.count(what));
            case 3 -> due("shadowed(" + b + ")", network.shadowed(b), plain.shadowed(b));
            case 4 -> due("arriving(" + b + ", " + p + ")", network.arriving(b, p),
                plain.arriving(b, p));
            case 5 -> due("delivered(" + b + ", " + p + ")", network.delivered(b, p),
                plain.delivered(b, p));
            case 6 -> due("arrivals(" + b + ", " + what + ")", network.arrivals(b, what % 4),
                plain.arrivals(b, what % 4));
            case 7 -> due("hits(" + b + ", " + r + ")", network.hits(b, r), plain.hits(b, r));
            case 8, 9 -> due("cube(" + b + ", " + p + ", " + k + ", " + what % 3 + ")",
                network.cube(b, p, k, what % 3), plain.cube(b, p, k, what % 3));
            case 10, 11 -> due("origin(" + b + ", " + p + ", " + h + ")", network.origin(b, p, h),
                plain.origin(b, p, h));
            case 12 -> due("distance(" + h + ", " + b + ", " + p + ")", network.distance(h, b, p),
                plain.distance(h, b, p));
            case 13 -> due("trace(" + h + ", " + k + ")", network.trace(h, k), plain.trace(h, k));
            case 14 -> due("traceEnd(" + h + ")", network.traceEnd(h), plain.traceEnd(h));
            case 15 -> due("loops()", network.loops(), plain.loops());
            case 16 -> cut(b, p, k);
            case 17 -> due("counterexamples(" + k + ")", network.counterexamples(k),
                plain.counterexamples(k));
            case 18 -> due("violated()", network.violated(), plain.violated());
            default -> {
                int i = below(24);
                due("ruleText(" + b + ", " + r + ", " + i + ")", network.ruleText(b, r, i),
                    plain.ruleText(b, r, i));
            }
        }
    }

    /** PlainNetwork tries every set, which takes long; places without delivery cost nothing. */
    private void cut(int b, int p, int k) {
        if (plain.delivered(b, p) > 0) {
            if (cutsLeft == 0) {
                return;
            }
            cutsLeft--;
        }
        due("cutSize(" + b + ", " + p + ")", network.cutSize(b, p), plain.cutSize(b, p));
        due("cutRule(" + b + ", " + p + ", " + k % 4 + ")", network.cutRule(b, p, k % 4),
            plain.cutRule(b, p, k % 4));
    }
}
