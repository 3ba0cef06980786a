/** What is SEEN, FITS, ODDS, MEAN: promises 23 to 26. */
final class SeenBounds extends Bounds {
    @Override
    void run() {
        seenFiveRows();
        fits();
        odds();
        mean();
        seenComes();
        nothingSeenThen();
        seenOfNoTwo();
        seenIsFull();
        fitsTold();
        fitsOfNoTwo();
        oddsTold();
        oddsOfNoTwo();
        meanTold();
        noMean();
    }

    private static void fitsAre(OddPartners x, int i, int j, int many, int least) {
        due(x.fits(i, j, 0), many);
        due(x.fits(i, j, 1), least);
    }

    private static void seenFiveRows() {
        of("Terms", "SEEN told by hand: two PEOPLE (5 rows at most).");
        OddPartners x = house(7);
        due(x.count(1), 0);
        for (int k = 1; k <= 5; k++) {
            due(x.see(k, k - 1), k);
            due(x.count(1), k);
        }
        due(x.see(0, 1), -4);
        due(x.count(1), 5);
    }

    private static void fits() {
        of("Terms", "FITS of two: how many WEIGHTS 0 .. 20 there are by which, were that theirs, all of SEEN were PAIRS "
                + "by BEST of HEAVY; the least (-5: none).");
        OddPartners two = house(2);
        fitsAre(two, 0, 1, 21, 0);
        two.see(0, 1);
        fitsAre(two, 0, 1, 20, 1);
        fitsAre(two, 1, 0, 20, 1);
        due(two.of(0, 1), 0);
        due(two.told(5), 0);
        // 20 alone: 19 is as heavy with PERSON 0's partner, so that he has one
        OddPartners last = house(4, 110, 2309, 1207);
        last.see(2, 1);
        fitsAre(last, 1, 2, 1, 20);
        last.weigh(2, 3, 10);
        fitsAre(last, 1, 2, 0, -5);
        last.weigh(2, 3, 8);
        fitsAre(last, 2, 1, 2, 19);
        // 0 alone
        OddPartners first = house(3, 201);
        first.see(0, 2);
        fitsAre(first, 0, 1, 1, 0);
        fitsAre(first, 1, 2, 2, 0);
        // all of SEEN, in any order, told twice
        OddPartners all = house(5, 103, 2303);
        all.see(0, 1);
        fitsAre(all, 1, 2, 7, 0);
        all.see(3, 2);
        all.see(2, 3);
        fitsAre(all, 1, 2, 7, 0);
        fitsAre(all, 2, 3, 20, 1);
        all.see(1, 4);
        fitsAre(all, 1, 2, 0, -5);
        fitsAre(all, 1, 4, 0, -5);
        // by HEAVY, not by MOST, nor by the PAIRS that are
        OddPartners path = house(4, 101, 2301);
        path.see(1, 2);
        path.pair(0, 1);
        fitsAre(path, 1, 2, 18, 3);
        fitsAre(path, 0, 1, 0, -5);
        path.see(0, 1);
        fitsAre(path, 1, 2, 0, -5);
    }

    private static void oddsAre(OddPartners x, int i, int j, long above, long below) {
        due(x.odds(i, j, 0), above);
        due(x.odds(i, j, 1), below);
        due(x.odds(j, i, 0), above);
        due(x.odds(j, i, 1), below);
    }

    private static void odds() {
        of("Terms", "ODDS of two: were their WEIGHT 0, 1, .. 9, each alike likely: how likely they are a PAIR by that: "
                + "a fraction in lowest terms.");
        // another one's WEIGHT with 1: 0 goes ahead by as much
        long[][] due = {{9, 10}, {9, 10}, {4, 5}, {7, 10}, {3, 5}, {1, 2}, {2, 5}, {3, 10}, {1, 5}, {1, 10}, {0, 1}, {0, 1}};
        for (int w = 0; w < due.length; w++) {
            OddPartners x = house(3);
            x.weigh(1, 2, w);
            oddsAre(x, 0, 1, due[w][0], due[w][1]);
        }
        // what their WEIGHT is doesn't matter, nor that they are a PAIR, and it stays
        OddPartners x = house(4, 120, 1204, 2301);
        x.pair(0, 1);
        oddsAre(x, 0, 1, 7, 10);
        oddsAre(x, 1, 2, 0, 1);
        oddsAre(x, 0, 3, 0, 1);
        due(x.of(0, 1), 20);
        due(x.partner(0), 1);
        // by HEAVY
        oddsAre(house(4, 102, 2302), 1, 2, 1, 2);
    }

    private static void mean() {
        of("Terms", "MEAN: WEIGHT of PAIRS together by how many there are: a fraction in lowest terms (NO: none).");
        OddPartners x = house(7, 120, 2319, 4520);
        meanIs(x, NO, NO);
        x.pair(0, 1);
        meanIs(x, 20, 1);
        x.pair(2, 3);
        meanIs(x, 39, 2);
        x.pair(4, 5);
        meanIs(x, 59, 3);
        x.weigh(2, 3, 20);
        meanIs(x, 20, 1);
        x.weigh(2, 3, 2);
        meanIs(x, 14, 1);
        weighAll(x, 101, 2301, 4501);
        meanIs(x, 1, 1);
        x.weigh(4, 5, 2);
        meanIs(x, 4, 3);
        x.alone(0);
        meanIs(x, 3, 2);
        x.alone(2);
        meanIs(x, 2, 1);
        x.weigh(4, 5, 0);
        meanIs(x, NO, NO);
        meanIs(new OddPartners(), NO, NO);
    }

    private static void meanIs(OddPartners x, long above, long below) {
        due(x.mean(0), above);
        due(x.mean(1), below);
    }

    private static void seenComes() {
        of("Promise 23", "What is SEEN comes: how many there are");
        OddPartners x = house(7, 601);
        due(x.see(0, 6), 1);
        due(x.see(6, 0), 2);
        due(x.see(0, 6), 3);
        due(x.see(4, 5), 4);
        due(x.count(1), 4);
        due(x.fits(1, 2, 0), 0);
        due(x.fits(4, 5, 0), 20);
    }

    private static void nothingSeenThen() {
        of("Promise 23", "(i -1: none then, 0, whatever the rest is).");
        for (int j : new int[] {0, 1, -1, 2, 7, LEAST, GREATEST}) {
            OddPartners x = house(2);
            x.see(0, 1);
            x.see(0, 1);
            due(x.see(-1, j), 0);
            due(x.count(1), 0);
            due(x.fits(0, 1, 0), 21);
            due(x.see(0, 1), 1);
            due(new OddPartners().see(-1, j), 0);
        }
        OddPartners all = new OddPartners();
        full(all);
        due(all.see(-1, 9), 0);
        due(all.see(0, 1), 1);
    }

    private static void seenOfNoTwo() {
        of("Promise 23", "NONE: i, j;");
        keeps(Houses::much, x -> x.see(0, 0), -1);
        keeps(Houses::much, x -> x.see(5, 0), -1);
        keeps(Houses::much, x -> x.see(0, 5), -1);
        keeps(Houses::much, x -> x.see(0, -1), -1);
        keeps(Houses::much, x -> x.see(-2, 0), -1);
        due(new OddPartners().see(0, 1), -1);
        due(house(7).see(6, 7), -1);
        due(house(7).see(LEAST, 0), -1);
        due(house(7).see(0, GREATEST), -1);
        // ahead of FULL
        keeps(Houses::full, x -> x.see(0, 0), -1);
        keeps(Houses::full, x -> x.see(0, 7), -1);
    }

    private static void seenIsFull() {
        of("Promise 23", "FULL: 5.");
        keeps(Houses::full, x -> x.see(0, 1), -4);
        OddPartners x = new OddPartners();
        much(x);
        due(x.see(0, 1), 3);
        due(x.see(0, 1), 4);
        due(x.see(0, 1), 5);
        due(x.see(0, 1), -4);
    }

    private static void fitsTold() {
        of("Promise 24", "FITS: what 0 how many, 1 the least; -5.");
        OddPartners x = house(3, 1207);
        x.see(1, 2);
        due(x.fits(1, 2, 0), 20);
        due(x.fits(1, 2, 1), 1);
        // 0 to 6: by 7 PERSON 0 has one
        due(x.fits(0, 1, 0), 7);
        due(x.fits(0, 1, 1), 0);
        x.see(0, 1);
        due(x.fits(0, 1, 0), 0);
        due(x.fits(0, 1, 1), -5);
        keeps(Houses::much, y -> y.fits(1, 3, 0), 0);
        keeps(Houses::much, y -> y.fits(2, 3, 1), 7);
    }

    private static void fitsOfNoTwo() {
        of("Promise 24", "NONE: i, j, what.");
        keeps(Houses::much, x -> x.fits(0, 0, 0), -1);
        keeps(Houses::much, x -> x.fits(0, 5, 0), -1);
        keeps(Houses::much, x -> x.fits(-1, 0, 0), -1);
        keeps(Houses::much, x -> x.fits(0, 1, 2), -1);
        keeps(Houses::much, x -> x.fits(0, 1, -1), -1);
        due(new OddPartners().fits(0, 1, 0), -1);
        due(house(7).fits(6, 7, 0), -1);
        due(house(7).fits(LEAST, 6, 1), -1);
        due(house(7).fits(6, GREATEST, 1), -1);
        due(house(7).fits(5, 6, LEAST), -1);
        due(house(7).fits(5, 6, GREATEST), -1);
        due(house(7).fits(5, 6, 1), 0);
    }

    private static void oddsTold() {
        of("Promise 25", "ODDS; part 0 above, 1 below the line.");
        OddPartners x = house(7, 604);
        due(x.odds(1, 6, 0), 1);
        due(x.odds(1, 6, 1), 2);
        due(x.odds(6, 5, 0), 1);
        due(x.odds(6, 5, 1), 2);
        due(x.odds(1, 2, 0), 9);
        due(x.odds(1, 2, 1), 10);
        keeps(Houses::much, y -> y.odds(2, 3, 0), 3);
        keeps(Houses::much, y -> y.odds(2, 3, 1), 10);
    }

    private static void oddsOfNoTwo() {
        of("Promise 25", "NO: i, j, part.");
        keeps(Houses::much, x -> x.odds(0, 0, 0), NO);
        keeps(Houses::much, x -> x.odds(0, 5, 0), NO);
        keeps(Houses::much, x -> x.odds(-1, 0, 1), NO);
        keeps(Houses::much, x -> x.odds(0, 1, 2), NO);
        keeps(Houses::much, x -> x.odds(0, 1, -1), NO);
        due(new OddPartners().odds(0, 1, 0), NO);
        due(house(7).odds(6, 7, 0), NO);
        due(house(7).odds(LEAST, 6, 0), NO);
        due(house(7).odds(6, GREATEST, 0), NO);
        due(house(7).odds(5, 6, LEAST), NO);
        due(house(7).odds(5, 6, GREATEST), NO);
        due(house(7).odds(5, 6, 1), 10);
    }

    private static void meanTold() {
        of("Promise 26", "MEAN; part likewise.");
        OddPartners x = house(4, 103, 2306);
        pairUp(x, 1, 23);
        due(x.mean(0), 9);
        due(x.mean(1), 2);
        keeps(Houses::much, y -> y.mean(0), 4);
        keeps(Houses::much, y -> y.mean(1), 1);
    }

    private static void noMean() {
        of("Promise 26", "NO.");
        keeps(Houses::much, x -> x.mean(2), NO);
        keeps(Houses::much, x -> x.mean(-1), NO);
        OddPartners x = house(2, 101);
        due(x.mean(0), NO);
        due(x.mean(1), NO);
        x.pair(0, 1);
        due(x.mean(0), 1);
        due(x.mean(LEAST), NO);
        due(x.mean(GREATEST), NO);
        due(x.mean(2), NO);
        due(x.mean(-1), NO);
    }
}
