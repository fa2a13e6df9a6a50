import java.util.ArrayList;
import java.util.List;
import java.util.Set;
import java.util.TreeSet;

/**
 * Tests of single sentences of the document. Each has the promise's number and the sentence, which
 * must stand in the document, under this promise or before promise 1. Of every call that is to
 * report an error or NONE, also this is looked at: "A call that reports an error changes nothing."
 */
final class Bounds {
    private static final Document DOCUMENT = new Document();
    private static final Set<String> QUOTED = new TreeSet<>();
    /** Calls that one object may be asked, but for the refused one. */
    private static final int LOOKS = 511;

    private Bounds() {
    }

    static void test(int promise, String sentence, String... calls) {
        ordinary(promise, sentence);
        String name = promise + ": " + sentence;
        Caller network = new Caller();
        List<Step> taken = new ArrayList<>();
        List<String> before = null;
        for (Step step : Step.read(calls)) {
            Script.runStep(name, network, step);
            if (step.isRefused()) {
                before = before == null ? looksAfter(taken) : before;
                unchanged(name, taken, step, before);
            } else {
                taken.add(step);
                before = null;
            }
        }
    }

    /** After the one calls nothing may show that would not show after the others. */
    static void same(int promise, String sentence, String calls, String others) {
        ordinary(promise, sentence);
        List<Step> one = Step.read(calls);
        List<Step> two = Step.read(others);
        int budget = LOOKS - Math.max(one.size(), two.size());
        compare(promise + ": " + sentence + ": {" + calls + "} shows other things than {" + others + "}",
            Looks.after(one, budget), Looks.after(two, budget));
        Caller network = new Caller();
        for (Step step : one) {
            Script.runStep(promise + ": " + sentence, network, step);
        }
    }

    /** For a sentence that names no boundary; the tests by promises look at what it says. */
    static void ordinary(int promise, String sentence) {
        boolean stands = quoteIn(promise, sentence) || quoteIn(0, sentence);
        Script.due("the document's word for promise " + promise + " \"" + sentence + "\"", stands ? 1 : 0, 1);
    }

    private static boolean quoteIn(int section, String sentence) {
        boolean stands = DOCUMENT.sentencesOf(section).contains(sentence);
        if (stands) {
            QUOTED.add(section + sentence);
        }
        return stands;
    }

    /** Every sentence of the document must have been quoted by now. */
    static void end() {
        for (int section = 0; section <= DOCUMENT.lastPromise(); section++) {
            for (String sentence : DOCUMENT.sentencesOf(section)) {
                Script.due("tests of promise " + section + ", \"" + sentence + "\"",
                    QUOTED.contains(section + sentence) ? 1 : 0, 1);
            }
        }
        Script.due("the promises of the document", DOCUMENT.lastPromise(), 37);
        Script.end();
    }

    static List<String> looksAfter(List<Step> taken) {
        return Looks.after(taken, LOOKS - taken.size());
    }

    /** The calls that were taken, and the refused one behind them, show what was seen before it. */
    static void unchanged(String name, List<Step> taken, Step refused, List<String> before) {
        List<Step> steps = new ArrayList<>(taken);
        steps.add(refused);
        compare(name + ": " + refused.told() + " changed something", before,
            Looks.after(steps, LOOKS - taken.size()));
    }

    private static void compare(String what, List<String> due, List<String> got) {
        int same = 0;
        while (same < due.size() && same < got.size() && due.get(same).equals(got.get(same))) {
            same++;
        }
        boolean equal = same == due.size() && same == got.size();
        Script.due(what + (equal ? "" : ": " + at(due, same) + ", " + at(got, same)), equal ? 0 : 1, 0);
    }

    private static String at(List<String> seen, int index) {
        return index < seen.size() ? seen.get(index) : "nothing";
    }
}
