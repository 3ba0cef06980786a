import java.util.ArrayList;
import java.util.List;

/** All that calls can tell of an object, what it holds and what of its IMAGE; it is used up by that. */
final class Trace {
    private final OddPartners x;
    private final List<String> answers = new ArrayList<>();

    private Trace(OddPartners x) {
        this.x = x;
    }

    static List<String> of(OddPartners x) {
        Trace trace = new Trace(x);
        trace.people();
        trace.best();
        trace.rows();
        trace.tapes();
        trace.add("read()", x.read());
        trace.people();
        trace.halvesAndOddSets();
        trace.add("undo()", x.undo());
        trace.people();
        trace.rows();
        trace.halvesAndOddSets();
        return trace.answers;
    }

    private void add(String call, long answer) {
        answers.add(answers.size() + ": " + call + " is " + answer);
    }

    private void people() {
        for (int i = 0; i < 7; i++) {
            add("partner " + i, x.partner(i));
            for (int j = i + 1; j < 7; j++) {
                add("of " + i + ", " + j, x.of(i, j));
            }
        }
        add("PEOPLE", x.told(0));
        add("PAIRS", x.told(2));
        add("TIGHT", x.told(9));
        add("SUM", x.told(10));
    }

    private void best() {
        for (int p = 0; p < 7; p++) {
            add("best " + p, x.best(0, p));
        }
        add("way", x.way(-1));
        add("flower", x.flower(1, -1));
        for (int k = 0; k < 3; k++) {
            add("proof " + k, x.proof(k));
        }
    }

    private void rows() {
        for (int k = 0; k < 5; k++) {
            add("count " + k, x.count(k));
        }
        for (int k = 0; k < 3; k++) {
            add("after " + k, x.after(k));
        }
        for (int j = 1; j < 4; j++) {
            add("fits 0, " + j, x.fits(0, j, 0));
        }
        add("looked", x.looked());
    }

    private void tapes() {
        for (int t = 0; t < 6; t++) {
            for (int k = 0; k < 4; k++) {
                add("peek " + t + ", " + k, x.peek(t, k));
            }
            add("an item " + t, x.item(t, 0, -1));
        }
    }

    private void halvesAndOddSets() {
        for (int p = 0; p < 7; p++) {
            add("halves " + p, x.halves(p, p));
        }
        add("SUM", x.told(10));
        weighAll(0);
        for (int p = 0; p < 7; p++) {
            for (int q = p + 1; q < 7; q++) {
                // alone LINKED, two lack what their HALVES and ODD SETS have not
                x.weigh(p, q, 20);
                add("what lack " + p + ", " + q, x.proof(2));
                x.weigh(p, q, 0);
            }
        }
    }

    private void weighAll(int w) {
        for (int p = 0; p < 7; p++) {
            for (int q = p + 1; q < 7; q++) {
                x.weigh(p, q, w);
            }
        }
    }
}
