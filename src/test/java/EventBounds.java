/** EVENTS, AFTER, the BOOK: promises 27 to 30. */
final class EventBounds extends Bounds {
    @Override
    void run() {
        eventsHappen();
        linkedToNobody();
        oneMore();
        belowN();
        allAreOne();
        eightEvents();
        afterWeight();
        afterPairs();
        afterPartners();
        eightOfTheBook();
        lookedAt();
        eventComes();
        noEventsThen();
        noSuchEvent();
        eventRefused();
        eventsAreFull();
        afterTold();
        noSuchAfter();
        bookRowComes();
        bookIsEmptyThen();
        bookOfNoTwo();
        bookIsFull();
        lookedTold();
        lookedAtAll();
    }

    /** What BEST by HEAVY weighs behind one row, or several: what and n by turns. */
    private static int weightBehind(OddPartners x, int... rows) {
        x.event(-1, 0);
        for (int k = 0; k < rows.length; k += 2) {
            x.event(rows[k], rows[k + 1]);
        }
        return x.after(0);
    }

    private static void eventsHappen() {
        of("Terms", "EVENTS told by hand: what happens");
        OddPartners x = house(4, 103, 1207, 2304);
        due(x.count(2), 0);
        due(x.after(0), 7);
        x.event(0, 2);
        due(x.after(0), 3);
        // what is doesn't change
        due(x.of(1, 2), 7);
        due(x.told(5), 7);
        // one behind the other
        due(weightBehind(x, 2, 8, 1, 1), 0);
        due(weightBehind(x, 1, 1, 2, 8), 8);
        due(weightBehind(x, 1, 0, 2, 4), 8);
        due(weightBehind(x, 2, 4, 1, 0), 7);
        due(weightBehind(x, 3, 0, 1, 1), 3);
        due(weightBehind(x, 1, 1, 3, 0), 2);
        due(weightBehind(x, 3, 0, 2, 2), 0);
        due(weightBehind(x, 2, 4, 3, 0), 1);
    }

    private static void linkedToNobody() {
        of("Terms", "(0 PERSON n is LINKED to nobody any more;");
        OddPartners x = house(7, 605, 6103, 6207, 4502);
        due(weightBehind(x, 0, 6), 2);
        due(weightBehind(x, 0, 0), 9);
        due(weightBehind(x, 0, 2), 7);
        due(weightBehind(x, 0, 4), 7);
        due(weightBehind(x, 0, 3), 9);
        due(weightBehind(x, 0, 5, 0, 6), 0);
        due(weightBehind(x, 0, 6, 1, 6), 2);
        due(weightBehind(x, 0, 6, 1, 0), 2);
        due(weightBehind(x, 0, 6, 1, 6, 1, 6), 2);
        due(weightBehind(x, 0, 6, 3, 0), 1);
        due(weightBehind(x, 0, 6, 0, 4, 3, 0), 0);
    }

    private static void oneMore() {
        of("Terms", "1 all to whom PERSON n is LINKED have with that one a WEIGHT of 1 more (20 at most);");
        OddPartners x = house(4, 118, 2301);
        due(weightBehind(x, 1, 0), 20);
        due(weightBehind(x, 1, 1), 20);
        due(weightBehind(x, 1, 0, 1, 0), 21);
        due(weightBehind(x, 1, 0, 1, 0, 1, 0), 21);
        due(weightBehind(x, 1, 0, 1, 1, 1, 0, 1, 1), 21);
        due(weightBehind(x, 1, 3), 20);
        due(weightBehind(x, 1, 0, 1, 2), 21);
        // who isn't LINKED isn't then
        due(weightBehind(house(3), 1, 0), 0);
        OddPartners one = house(3, 101);
        due(weightBehind(one, 1, 2), 1);
        due(weightBehind(one, 1, 0), 2);
        // all of them, none else
        OddPartners star = house(7, 605, 6105, 6205, 3405);
        due(weightBehind(star, 1, 6), 11);
        due(weightBehind(star, 1, 3), 11);
        due(weightBehind(star, 1, 6, 0, 0, 0, 1), 11);
        due(weightBehind(star, 1, 0, 0, 0), 10);
        due(weightBehind(house(2, 120), 1, 0), 20);
    }

    private static void belowN() {
        of("Terms", "2 WEIGHTS below n are 0;");
        OddPartners x = house(4, 105, 2306);
        due(weightBehind(x, 2, 0), 11);
        due(weightBehind(x, 2, 1), 11);
        due(weightBehind(x, 2, 4), 11);
        due(weightBehind(x, 2, 5), 11);
        due(weightBehind(x, 2, 6), 6);
        due(weightBehind(x, 2, 7), 0);
        due(weightBehind(x, 2, 20), 0);
        due(weightBehind(house(2, 120), 2, 20), 20);
        due(weightBehind(house(2, 119), 2, 20), 0);
        due(weightBehind(house(2, 101), 2, 1), 1);
        due(weightBehind(house(2, 101), 2, 2), 0);
        // they are LINKED no more
        due(weightBehind(x, 2, 6, 1, 0), 6);
        due(weightBehind(x, 2, 6, 3, 0), 1);
    }

    private static void allAreOne() {
        of("Terms", "3 n does not matter: all WEIGHTS above 0 are 1;");
        for (int n : new int[] {0, 1, -1, 7, 21, LEAST, GREATEST}) {
            OddPartners x = house(4, 101, 1220, 2302);
            due(x.event(3, n), 1);
            due(x.after(0), 2);
            due(x.after(1), 2);
        }
        due(weightBehind(house(3), 3, 0), 0);
        due(weightBehind(house(3, 120), 3, 0), 1);
        due(weightBehind(house(4, 120), 3, 3), 1);
    }

    private static void eightEvents() {
        of("Terms", "all WEIGHTS above 0 are 1; 8 rows at most):");
        OddPartners x = house(2, 101);
        for (int k = 1; k <= 8; k++) {
            due(x.event(1, 0), k);
            due(x.count(2), k);
            due(x.after(0), k + 1);
        }
        due(x.event(1, 0), -4);
        due(x.count(2), 8);
        due(x.after(0), 9);
    }

    private static void afterWeight() {
        of("Terms", "AFTER, behind all of it: WEIGHT of BEST by HEAVY;");
        OddPartners x = house(4, 101, 1203, 2301);
        due(x.after(0), 3);
        x.event(1, 0);
        due(x.after(0), 3);
        x.event(1, 3);
        due(x.after(0), 4);
        x.event(0, 1);
        due(x.after(0), 2);
        x.event(0, 2);
        due(x.after(0), 0);
        due(new OddPartners().after(0), 0);
    }

    private static void afterPairs() {
        of("Terms", "how many PAIRS by MOST;");
        OddPartners x = house(4, 101, 1220, 2301);
        due(x.after(1), 2);
        due(x.told(6), 1);
        x.pair(1, 2);
        due(x.after(1), 2);
        x.event(2, 2);
        due(x.after(1), 1);
        x.event(0, 1);
        due(x.after(1), 0);
        due(new OddPartners().after(1), 0);
        due(house(7, 101, 2301, 4501).after(1), 3);
    }

    private static void afterPartners() {
        of("Terms", "how many have another partner (or none) by HEAVY then than now.");
        OddPartners x = house(4, 103, 1207, 2303);
        due(x.after(2), 0);
        // whatever PAIRS there are
        pairUp(x, 1, 23);
        due(x.after(2), 0);
        // 1 and 2 have others, 0 and 3 had none
        x.event(3, 0);
        due(x.after(2), 4);
        x.event(-1, 0);
        // all four have none, or had none
        x.event(2, 20);
        due(x.after(2), 2);
        x.event(-1, 0);
        x.event(0, 0);
        due(x.after(2), 0);
        x.event(0, 1);
        // 2 has 3, 3 has 2, 1 has none
        due(x.after(2), 3);
        due(house(7).after(2), 0);
        due(new OddPartners().after(2), 0);
        // by HEAVY, not by MOST
        OddPartners y = house(4, 103, 1207, 2303);
        y.event(1, 1);
        due(y.after(2), 0);
        OddPartners all = house(6, 120, 2320, 4520);
        all.event(2, 20);
        due(all.after(2), 0);
        all.event(0, 0);
        due(all.after(2), 2);
        all.event(0, 2);
        all.event(0, 4);
        due(all.after(2), 6);
    }

    private static void eightOfTheBook() {
        of("Terms", "A BOOK told by hand: two PEOPLE (8 rows at most):");
        OddPartners x = house(3, 101);
        x.pair(0, 1);
        due(x.count(3), 0);
        for (int k = 1; k <= 7; k++) {
            due(x.book(0, 1), k);
            due(x.count(3), k);
        }
        due(x.looked(), -5);
        due(x.book(1, 2), 8);
        due(x.looked(), 7);
        due(x.book(0, 1), -4);
        due(x.count(3), 8);
        due(x.looked(), 7);
    }

    private static void lookedAt() {
        of("Terms", "LOOKED at: the number (from 0) of the first of these rows that is no PAIR (-5: none).");
        OddPartners x = house(6, 101, 2301, 4501);
        pairUp(x, 1, 23, 45);
        due(x.looked(), -5);
        x.book(1, 0);
        x.book(3, 2);
        x.book(4, 5);
        due(x.looked(), -5);
        x.alone(5);
        due(x.looked(), 2);
        x.alone(2);
        due(x.looked(), 1);
        x.weigh(0, 1, 0);
        due(x.looked(), 0);
        x.weigh(0, 1, 1);
        due(x.looked(), 0);
        x.take(0);
        due(x.looked(), -5);
        // LINKED, with partners, but no PAIR
        OddPartners y = house(4, 101, 2301, 1201);
        pairUp(y, 1, 23);
        y.book(1, 2);
        due(y.looked(), 0);
        y.book(0, 1);
        due(y.looked(), 0);
        // both FREE
        OddPartners z = house(2, 101);
        z.book(0, 1);
        due(z.looked(), 0);
    }

    private static void eventComes() {
        of("Promise 27", "A row comes to EVENTS: how many there are");
        OddPartners x = house(1);
        due(x.event(0, 0), 1);
        due(x.event(1, 0), 2);
        due(x.event(2, 0), 3);
        due(x.event(2, 20), 4);
        due(x.event(3, 99), 5);
        due(x.count(2), 5);
        OddPartners none = new OddPartners();
        due(none.event(2, 20), 1);
        due(none.event(3, -1), 2);
    }

    private static void noEventsThen() {
        of("Promise 27", "(what -1: none then, 0, whatever the rest is).");
        for (int n : new int[] {0, 1, -1, 21, LEAST, GREATEST}) {
            OddPartners x = house(2, 105);
            x.event(0, 0);
            x.event(2, 9);
            due(x.event(-1, n), 0);
            due(x.count(2), 0);
            due(x.after(0), 5);
            due(x.event(1, 0), 1);
            due(x.after(0), 6);
            due(new OddPartners().event(-1, n), 0);
        }
        OddPartners all = new OddPartners();
        full(all);
        due(all.event(-1, 99), 0);
        due(all.event(1, 0), 1);
    }

    private static void noSuchEvent() {
        of("Promise 27", "NONE: what (0 .. 3), PERSON n;");
        keeps(Houses::much, x -> x.event(4, 0), -1);
        keeps(Houses::much, x -> x.event(-2, 0), -1);
        keeps(Houses::much, x -> x.event(0, 5), -1);
        keeps(Houses::much, x -> x.event(0, -1), -1);
        keeps(Houses::much, x -> x.event(1, 5), -1);
        keeps(Houses::much, x -> x.event(1, -1), -1);
        due(house(7).event(8, 0), -1);
        due(house(7).event(LEAST, 0), -1);
        due(house(7).event(GREATEST, 0), -1);
        due(house(7).event(0, 6), 1);
        due(house(7).event(0, 7), -1);
        due(house(7).event(1, 6), 1);
        due(house(7).event(1, 7), -1);
        due(house(7).event(0, LEAST), -1);
        due(house(7).event(1, GREATEST), -1);
        due(new OddPartners().event(0, 0), -1);
        due(new OddPartners().event(1, 0), -1);
        // ahead of BAD and of FULL
        due(house(7).event(4, 21), -1);
        keeps(Houses::full, x -> x.event(4, 21), -1);
        keeps(Houses::full, x -> x.event(0, 7), -1);
        keeps(Houses::full, x -> x.event(1, -1), -1);
    }

    private static void eventRefused() {
        of("Promise 27", "BAD: n (by 2: 0 .. 20);");
        keeps(Houses::much, x -> x.event(2, 21), -2);
        keeps(Houses::much, x -> x.event(2, -1), -2);
        due(new OddPartners().event(2, LEAST), -2);
        due(new OddPartners().event(2, GREATEST), -2);
        due(new OddPartners().event(2, 0), 1);
        due(new OddPartners().event(2, 20), 1);
        // ahead of FULL
        keeps(Houses::full, x -> x.event(2, 21), -2);
        keeps(Houses::full, x -> x.event(2, -1), -2);
    }

    private static void eventsAreFull() {
        of("Promise 27", "FULL: 8.");
        keeps(Houses::full, x -> x.event(0, 6), -4);
        keeps(Houses::full, x -> x.event(1, 6), -4);
        keeps(Houses::full, x -> x.event(2, 20), -4);
        keeps(Houses::full, x -> x.event(3, 0), -4);
        OddPartners x = new OddPartners();
        much(x);
        for (int k = 4; k <= 8; k++) {
            due(x.event(3, 0), k);
        }
        due(x.event(3, 0), -4);
    }

    private static void afterTold() {
        of("Promise 28", "AFTER: what 0 WEIGHT, 1 PAIRS, 2 how many.");
        OddPartners x = house(5, 101, 1209, 2301);
        x.event(0, 2);
        due(x.after(0), 1);
        due(x.after(1), 1);
        due(x.after(2), 3);
        keeps(Houses::much, y -> y.after(0), 11);
        keeps(Houses::much, y -> y.after(1), 2);
        keeps(Houses::much, y -> y.after(2), 3);
    }

    private static void noSuchAfter() {
        of("Promise 28", "NONE.");
        keeps(Houses::much, x -> x.after(3), -1);
        keeps(Houses::much, x -> x.after(-1), -1);
        due(new OddPartners().after(3), -1);
        due(house(7).after(LEAST), -1);
        due(house(7).after(GREATEST), -1);
    }

    private static void bookRowComes() {
        of("Promise 29", "A row comes to the BOOK: how many there are");
        OddPartners x = house(7, 601);
        due(x.book(0, 6), 1);
        due(x.book(6, 0), 2);
        due(x.book(0, 6), 3);
        due(x.book(5, 4), 4);
        due(x.count(3), 4);
        due(x.looked(), 0);
        x.pair(0, 6);
        due(x.looked(), 3);
    }

    private static void bookIsEmptyThen() {
        of("Promise 29", "(i -1: it is empty then, 0, whatever the rest is).");
        for (int j : new int[] {0, 1, -1, 2, 7, LEAST, GREATEST}) {
            OddPartners x = house(2);
            x.book(0, 1);
            x.book(1, 0);
            due(x.book(-1, j), 0);
            due(x.count(3), 0);
            due(x.looked(), -5);
            due(x.book(0, 1), 1);
            due(new OddPartners().book(-1, j), 0);
        }
        OddPartners all = new OddPartners();
        full(all);
        due(all.book(-1, 9), 0);
        due(all.book(0, 1), 1);
    }

    private static void bookOfNoTwo() {
        of("Promise 29", "NONE: i, j;");
        keeps(Houses::much, x -> x.book(0, 0), -1);
        keeps(Houses::much, x -> x.book(5, 0), -1);
        keeps(Houses::much, x -> x.book(0, 5), -1);
        keeps(Houses::much, x -> x.book(0, -1), -1);
        keeps(Houses::much, x -> x.book(-2, 0), -1);
        due(new OddPartners().book(0, 1), -1);
        due(house(7).book(6, 7), -1);
        due(house(7).book(LEAST, 0), -1);
        due(house(7).book(0, GREATEST), -1);
        // ahead of FULL
        keeps(Houses::full, x -> x.book(0, 0), -1);
        keeps(Houses::full, x -> x.book(0, 7), -1);
    }

    private static void bookIsFull() {
        of("Promise 29", "FULL: 8.");
        keeps(Houses::full, x -> x.book(0, 1), -4);
        keeps(Houses::full, x -> x.book(0, 2), -4);
        OddPartners x = new OddPartners();
        much(x);
        for (int k = 3; k <= 8; k++) {
            due(x.book(0, 1), k);
        }
        due(x.book(0, 1), -4);
    }

    private static void lookedTold() {
        of("Promise 30", "LOOKED at;");
        OddPartners x = house(4, 101, 2301);
        x.book(0, 1);
        x.book(2, 3);
        due(x.looked(), 0);
        x.pair(0, 1);
        due(x.looked(), 1);
        keeps(Houses::much, OddPartners::looked, 1);
    }

    private static void lookedAtAll() {
        of("Promise 30", "-5.");
        due(new OddPartners().looked(), -5);
        due(house(7).looked(), -5);
        OddPartners x = house(2, 101);
        x.book(0, 1);
        x.take(0);
        due(x.looked(), -5);
        keeps(Houses::full, OddPartners::looked, -5);
    }
}
