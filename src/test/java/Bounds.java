import java.util.List;
import java.util.function.Consumer;
import java.util.function.ToLongFunction;

/**
 * Tests of the document's sentences, above all where they name a bound. Each test begins with
 * the sentence that it is of.
 */
abstract class Bounds extends Houses {
    private static int checks = 0;
    private static int tests = 0;
    private static int wrong = 0;
    private static Sentences sentences;
    private static String now = "";
    private static int checksOfNow = 1;
    private static String where = "";
    private static int wrongOfNow = 0;
    /** So many faults of a sentence are told; how many more there are, behind them. */
    private static final int TOLD = 4;

    abstract void run();

    static void readBy(Sentences document) {
        sentences = document;
    }

    static int wrong() {
        return wrong;
    }

    static String summary() {
        return tests + " sentences, " + checks + " checks, " + wrong + " wrong";
    }

    /** Ends the test before and begins that of a sentence. */
    static void of(String part, String sentence) {
        end();
        tests++;
        now = part + ", \"" + sentence + "\"";
        checksOfNow = 0;
        wrongOfNow = 0;
        where = "";
        String fault = sentences.mark(part, sentence);
        if (!fault.isEmpty()) {
            fault(fault);
        }
    }

    static void end() {
        if (checksOfNow == 0) {
            fault("nothing is looked at");
        }
        if (wrongOfNow > TOLD) {
            System.out.println(now + ": and " + (wrongOfNow - TOLD) + " more");
        }
    }

    /** Where in a test that looks at many set-ups it stands now. */
    static void at(String place) {
        where = place;
    }

    static void fault(String what) {
        wrong++;
        wrongOfNow++;
        if (wrongOfNow > TOLD) {
            return;
        }
        int line = StackWalker.getInstance().walk(frames -> frames
                .filter(f -> !f.getClassName().equals("Bounds")).findFirst()
                .map(StackWalker.StackFrame::getLineNumber).orElse(0));
        System.out.println(now + where + ", line " + line + ": " + what);
    }

    /** A fault of the tests themselves, against the whole document. */
    static void lacks(String what) {
        wrong++;
        System.out.println("the document: " + what);
    }

    static void due(long got, long want) {
        checks++;
        checksOfNow++;
        if (got != want) {
            fault(got + ", due is " + want);
        }
    }

    /** What the call answers, and that behind it all is as it would be without it. */
    static void keeps(Consumer<OddPartners> setUp, ToLongFunction<OddPartners> call, long want) {
        OddPartners asked = new OddPartners();
        OddPartners other = new OddPartners();
        setUp.accept(asked);
        setUp.accept(other);
        due(call.applyAsLong(asked), want);
        List<String> got = Trace.of(asked);
        List<String> wanted = Trace.of(other);
        due(got.size(), wanted.size());
        for (int k = 0; k < wanted.size(); k++) {
            if (!got.get(k).equals(wanted.get(k))) {
                fault("behind it " + got.get(k) + ", without it " + wanted.get(k));
                return;
            }
        }
    }
}
