/** The four examples of the document's "Description", which must stand there word by word. */
public final class ExamplesTest {
    private static final Document DOCUMENT = new Document();

    private ExamplesTest() {
    }

    public static void main(String[] args) {
        example(1,
            "reset(2) = 4; connect(0, 1, 1, 0) = 1; insertForward(0, 0, 1, 1, 1, 2) = 1;"
            + " insertDrop(0, 1, 15, 3, 0) = 2; insertForward(1, 0, 15, 0, 0, 4) = 1;"
            + " arriving(0, 0) = 15; arriving(1, 0) = 10; delivered(1, 2) = 10;"
            + " arrivals(0, 1) = 1; arrivals(0, 2) = 1; hits(0, 0) = 2; trace(3, 1) = 1003;"
            + " traceEnd(2) = 2; cutSize(1, 2) = 1; cutRule(1, 2, 0) = 0;"
            + " setRewriting(0, 0, 2, 0) = 1");
        example(2,
            "connect(2, 0, 3, 0) = 1; connect(2, 0, 4, 1) = -4; connect(2, 1, 2, 1) = -4;"
            + " insertForward(2, 0, 15, 0, 0, 1) = 1; insertForward(3, 0, 15, 0, 0, 1) = 1;"
            + " inject(2, 1, 12, 8) = 4; loops() = 3840; traceEnd(9) = 3; distance(9, 2, 0) = 2;"
            + " origin(3, 0, 10) = 10; cube(3, 0, 0, 0) = 12; cube(3, 0, 0, 1) = 8;"
            + " switchRule(3, 0, false) = 1; loops() = 0; undo() = 2; other(3, 0) = 20");
        example(3,
            "type('0') = 1; type('3') = 2; type(':') = 3; type('1') = 4; type('*') = 5;"
            + " type('0') = 6; type('*') = 7; type('>') = 8; type('2') = 9; type('=') = 10;"
            + " type('*') = 11; type('*') = 12; type('*') = 13; type('1') = 14; readRule(5) = 1;"
            + " rule(5, 0, 0) = 9");
        example(4,
            "addPolicy(true, 1, 0, 1, 3) = 0; insertForward(1, 0, 1, 8, 8, 8) = 1;"
            + " counterexamples(0) = 255; setPolicyCube(0, 8, 8) = 8; violated() = 0;"
            + " ruleText(1, 0, 0) = 48; ruleText(1, 0, 2) = 49; ruleText(1, 0, 9) = -6;"
            + " moveRule(1, 0, 0) = 0; shadowed(1) = 0; insertDrop(1, 0, 15, 0, 0) = 2;"
            + " shadowed(1) = 2; violated() = 1; clearPolicies() = 1;"
            + " counterexamples(0) = -9223372036854775808; disconnect(0, 0) = -6");
        Script.due("the examples of the document", DOCUMENT.examples().size(), 4);
        Script.end();
    }

    private static void example(int number, String calls) {
        boolean stands = DOCUMENT.examples().size() >= number && DOCUMENT.examples().get(number - 1).equals(calls);
        Script.due("the document's word for example " + number, stands ? 1 : 0, 1);
        Script.due("the calls of example " + number, Step.read(calls).size(), 16);
        Script.run("example " + number, calls);
    }
}
