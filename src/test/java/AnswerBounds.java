/** What the terms say of all answers: the refusals and their order, what changes nothing, 512 calls. */
final class AnswerBounds extends Bounds {
    @Override
    void run() {
        refusals();
        whoHasNotCome();
        oneTwice();
        changesNothing();
        askedOnly();
        noSuchNumber();
        lastCall();
    }

    private static void refusals() {
        of("Terms", "Answers: NONE (-1) no such number; BAD (-2) a number is not as told; STATE (-3) as told; "
                + "FULL (-4); the first that a call's words name.");
        due(OddPartners.NONE, -1);
        due(OddPartners.BAD, -2);
        due(OddPartners.STATE, -3);
        due(OddPartners.FULL, -4);
        OddPartners x = new OddPartners();
        due(x.undo(), OddPartners.STATE);
        full(x);
        due(x.person(), OddPartners.FULL);
        due(x.weigh(0, 7, 21), OddPartners.NONE);
        due(x.weigh(0, 1, 21), OddPartners.BAD);
        due(x.pair(0, 7), OddPartners.NONE);
        due(x.pair(0, 1), OddPartners.STATE);
        due(x.best(2, 7), OddPartners.BAD);
        due(x.best(1, 7), OddPartners.NONE);
        due(x.halves(7, 61), OddPartners.NONE);
        due(x.halves(6, 61), OddPartners.BAD);
        due(x.odd(3, 41), OddPartners.BAD);
        due(x.odd(7, 40), OddPartners.FULL);
        due(x.see(0, 0), OddPartners.NONE);
        due(x.see(0, 1), OddPartners.FULL);
        due(x.event(4, 21), OddPartners.NONE);
        due(x.event(2, 21), OddPartners.BAD);
        due(x.event(2, 20), OddPartners.FULL);
        due(x.book(0, 0), OddPartners.NONE);
        due(x.book(0, 1), OddPartners.FULL);
        feed(x, "p".repeat(100));
        due(x.feed(128), OddPartners.BAD);
        due(x.feed(127), OddPartners.FULL);
        due(x.tape(6, 5, 61), OddPartners.NONE);
        due(x.tape(5, 5, -1), OddPartners.BAD);
        due(x.tape(5, 4, -1), -14);
        due(x.item(6, -1, 0), OddPartners.NONE);
        due(x.item(5, -1, 0), -11);
        due(x.shift(6, -1, 5, -1, -1), OddPartners.NONE);
        due(x.shift(0, -1, 5, -1, -1), -11);
        x.tape(0, 0, 1);
        x.tape(5, 1, 1);
        due(x.shift(0, -1, 5, -1, -1), -12);
        due(x.shift(0, -1, 0, -1, -1), -13);
    }

    private static void whoHasNotCome() {
        of("Terms", "PEOPLE 0 .. 6, as they come.");
        for (int n = 0; n <= 7; n++) {
            for (int p = -3; p <= 40; p++) {
                at(", " + n + " people, person " + p);
                if (p < 0 || p >= n) {
                    isNobody(house(n), p, n - 1);
                }
            }
        }
    }

    /** Each call that names a PERSON refuses p, beside another one who is there. */
    private static void isNobody(OddPartners x, int p, int other) {
        due(x.weigh(p, other, 1), -1);
        due(x.weigh(other, p, 1), -1);
        due(x.of(p, other), -1);
        due(x.of(other, p), -1);
        due(x.pair(p, other), -1);
        due(x.pair(other, p), -1);
        due(x.alone(p), -1);
        due(x.partner(p), -1);
        due(x.best(0, p), -1);
        due(x.best(1, p), -1);
        due(x.loss(p), -1);
        due(x.halves(p, 1), -1);
        // i -1 asks for something else
        due(x.see(p, other), p == -1 ? 0 : -1);
        due(x.book(p, other), p == -1 ? 0 : -1);
        due(other < 0 ? -1 : x.see(other, p), -1);
        due(other < 0 ? -1 : x.book(other, p), -1);
        due(x.fits(p, other, 0), -1);
        due(x.fits(other, p, 0), -1);
        due(x.odds(p, other, 0), NO);
        due(x.odds(other, p, 1), NO);
        due(x.event(0, p), -1);
        due(x.event(1, p), -1);
        due(x.count(1) + x.count(2) + x.count(3) + x.told(1), 0);
    }

    private static void oneTwice() {
        of("Terms", "i, j are two PEOPLE: one twice is NONE.");
        for (int p = 0; p < 7; p++) {
            OddPartners x = house(7);
            due(x.weigh(p, p, 1), -1);
            due(x.of(p, p), -1);
            due(x.pair(p, p), -1);
            due(x.see(p, p), -1);
            due(x.fits(p, p, 0), -1);
            due(x.fits(p, p, 1), -1);
            due(x.odds(p, p, 0), NO);
            due(x.odds(p, p, 1), NO);
            due(x.book(p, p), -1);
            due(x.told(1) + x.told(2) + x.count(1) + x.count(3), 0);
        }
    }

    private static void changesNothing() {
        of("Terms", "What is answered so changes nothing; what is asked changes nothing.");
        keeps(AnswerBounds::fullWithText, OddPartners::person, -4);
        keeps(AnswerBounds::fullWithText, x -> x.weigh(0, 1, 21), -2);
        keeps(AnswerBounds::fullWithText, x -> x.pair(0, 6), -3);
        keeps(AnswerBounds::fullWithText, x -> x.take(2), -2);
        keeps(AnswerBounds::fullWithText, x -> x.mend(10), -2);
        keeps(AnswerBounds::fullWithText, x -> x.feed(128), -2);
        keeps(AnswerBounds::fullWithText, x -> x.halves(0, 61), -2);
        keeps(AnswerBounds::fullWithText, x -> x.odd(7, 1), -4);
        keeps(AnswerBounds::fullWithText, x -> x.see(0, 1), -4);
        keeps(AnswerBounds::fullWithText, x -> x.event(1, 0), -4);
        keeps(AnswerBounds::fullWithText, x -> x.book(2, 3), -4);
        keeps(AnswerBounds::fullWithText, x -> x.told(11), -1);
        keeps(AnswerBounds::fullWithText, x -> x.way(0), -5);
        keeps(AnswerBounds::fullWithText, x -> x.told(5), 18);
        keeps(AnswerBounds::fullWithText, x -> x.parts(3), 0);
        keeps(AnswerBounds::fullWithText, x -> x.fits(2, 3, 1), 1);
        keeps(AnswerBounds::fullWithText, x -> x.odds(2, 3, 0), 9);
        keeps(AnswerBounds::fullWithText, x -> x.after(2), 0);
    }

    private static void fullWithText(OddPartners x) {
        full(x);
        feed(x, "h60;w016");
    }

    private static void askedOnly() {
        of("Terms", "All that follows is asked, and changes nothing.");
        for (int k = -1; k < 4; k++) {
            int what = k;
            asksOnly(x -> x.proof(what));
            asksOnly(x -> x.parts(what + 1));
            asksOnly(x -> x.way(what));
            asksOnly(x -> x.flower(0, what));
            asksOnly(x -> x.flower(1, what));
        }
        for (int p = 0; p < 5; p++) {
            int person = p;
            int other = (p + 1) % 5;
            asksOnly(x -> x.best(0, person));
            asksOnly(x -> x.best(1, person));
            asksOnly(x -> x.loss(person));
            asksOnly(x -> x.partner(person));
            asksOnly(x -> x.of(person, other));
            asksOnly(x -> x.fits(person, other, 0));
            asksOnly(x -> x.fits(other, person, 1));
            asksOnly(x -> x.odds(person, other, 0));
            asksOnly(x -> x.judge(person, 0));
            asksOnly(x -> x.peek(person, 1));
            asksOnly(x -> x.count(person));
        }
        for (int k = 0; k < 11; k++) {
            int what = k;
            asksOnly(x -> x.told(what));
        }
        for (int k = 0; k < 3; k++) {
            int what = k;
            asksOnly(x -> x.after(what));
            asksOnly(x -> x.mean(what));
        }
        asksOnly(OddPartners::shrunk);
        asksOnly(OddPartners::looked);
    }

    /** What it answers is asked on an object of its own; twice asked, it is the same. */
    private static void asksOnly(java.util.function.ToLongFunction<OddPartners> call) {
        OddPartners x = new OddPartners();
        much(x);
        long answer = call.applyAsLong(x);
        due(call.applyAsLong(x), answer);
        keeps(Houses::much, call, answer);
    }

    private static void noSuchNumber() {
        of("Terms", "The constants: `NO = Long.MIN_VALUE`: There is no such number.");
        due(OddPartners.NO, Long.MIN_VALUE);
        OddPartners x = house(2, 101);
        due(x.mean(0), OddPartners.NO);
        due(x.odds(0, 2, 0), OddPartners.NO);
        due(x.peek(0, 0), OddPartners.NO);
    }

    private static void lastCall() {
        of("What it is", "An object is used for at most 512 calls after it has been made; what later calls answer is free.");
        OddPartners x = house(7, 101);
        for (int k = 9; k <= 511; k++) {
            due(x.weigh(0, 1, k % 21), k == 9 ? 1 : (k - 1) % 21);
        }
        due(x.of(0, 1), 511 % 21);
        // free, but an answer
        for (int k = 0; k < 2000; k++) {
            x.person();
            x.feed(k % 128);
            x.odd(7, 1);
            x.see(0, 1);
            x.event(1, 0);
            x.book(0, 1);
            x.mend(9);
            x.fits(0, 1, 0);
        }
    }
}
