/** Each promise of the document by answers worked out by hand: ordinary, at the edges, and wrong inputs. */
public final class PromisesTest extends Houses {
    private static int checks = 0;
    private static int wrong = 0;
    private static int promise = 0;

    private static void due(long got, long want) {
        checks++;
        if (got != want) {
            wrong++;
            System.out.println("promise " + promise + ", line "
                    + Thread.currentThread().getStackTrace()[2].getLineNumber() + ": " + got + ", due is " + want);
        }
    }

    public static void main(String[] args) {
        peopleAndWeights();
        pairs();
        bestTaken();
        mended();
        texts();
        textFaults();
        ways();
        flowers();
        manyFlowers();
        longFlowers();
        theBest();
        toldNumbers();
        partsAndBarriers();
        losses();
        halvesAndOddSets();
        proofs();
        seenAndFits();
        oddsAndMeans();
        events();
        books();
        judged();
        images();
        tapes();
        shifts();
        System.out.println(checks + " checks, " + wrong + " wrong");
        if (wrong > 0) {
            System.exit(1);
        }
    }

    private static void peopleAndWeights() {
        promise = 1;
        OddPartners x = new OddPartners();
        due(x.told(0), 0);
        due(x.count(0) + x.count(1) + x.count(2) + x.count(3) + x.count(4), 0);
        due(x.peek(0, 0), NO);
        promise = 2;
        for (int p = 0; p < 7; p++) {
            due(x.person(), p);
            due(x.told(0), p + 1);
        }
        due(x.person(), -4);
        due(x.told(0), 7);
        promise = 3;
        due(x.weigh(0, 1, 0), 0);
        due(x.weigh(0, 1, 20), 0);
        due(x.weigh(1, 0, 3), 20);
        due(x.weigh(0, 1, -1), -2);
        due(x.weigh(0, 1, 21), -2);
        due(x.weigh(2, 2, 1), -1);
        due(x.weigh(2, 2, 99), -1);
        due(x.weigh(-1, 2, 1), -1);
        due(x.weigh(7, 2, 1), -1);
        due(x.weigh(2, GREATEST, 1), -1);
        due(x.weigh(LEAST, 2, 1), -1);
        due(x.weigh(0, 1, 3), 3);
        due(x.told(1), 1);
        due(house(2).weigh(0, 2, 1), -1);
        promise = 4;
        due(x.of(0, 1), 3);
        due(x.of(1, 0), 3);
        due(x.of(5, 6), 0);
        due(x.of(3, 3), -1);
        due(x.of(0, 7), -1);
        due(x.of(-1, 0), -1);
        due(x.of(GREATEST, LEAST), -1);
    }

    private static void pairs() {
        OddPartners x = house(5, 1202, 2303, 3404);
        promise = 5;
        due(x.pair(0, 1), -3);
        x.weigh(0, 1, 5);
        due(x.pair(1, 0), 1);
        due(x.pair(0, 1), -3);
        due(x.pair(1, 2), -3);
        due(x.pair(2, 1), -3);
        due(x.pair(2, 4), -3);
        due(x.pair(2, 2), -1);
        due(x.pair(2, 5), -1);
        due(x.pair(-1, 2), -1);
        due(x.pair(3, 2), 2);
        due(x.told(2), 2);
        promise = 9;
        due(x.partner(0), 1);
        due(x.partner(2), 3);
        due(x.partner(4), -5);
        due(x.partner(5), -1);
        due(x.partner(-1), -1);
        promise = 3;
        x.weigh(0, 1, 7);
        due(x.partner(0), 1);
        x.weigh(0, 1, 0);
        due(x.partner(0), -5);
        due(x.partner(1), -5);
        due(x.partner(2), 3);
        x.weigh(3, 4, 0);
        due(x.partner(3), 2);
        promise = 6;
        due(x.alone(3), 2);
        due(x.partner(2), -5);
        due(x.partner(3), -5);
        due(x.alone(3), -5);
        due(x.alone(5), -1);
        due(x.alone(-5), -1);
        due(x.told(2), 0);
    }

    private static void bestTaken() {
        promise = 7;
        OddPartners path = house(4, 103, 1207, 2303);
        due(path.take(2), -2);
        due(path.take(-1), -2);
        due(path.take(0), 1);
        due(path.partner(1), 2);
        due(path.partner(0), -5);
        due(path.take(1), 2);
        due(path.partner(1), 0);
        due(path.partner(2), 3);
        due(new OddPartners().take(1), 0);
        OddPartners even = house(4, 101, 201, 301, 1201, 1301, 2301);
        pairUp(even, 3, 12);
        due(even.take(0), 2);
        due(even.partner(0), 1);
        due(even.partner(3), 2);
    }

    private static void mended() {
        promise = 8;
        OddPartners x = house(6, 101, 1201, 2301, 3401, 4501);
        pairUp(x, 12, 34);
        due(x.mend(-1), -2);
        due(x.mend(10), -2);
        due(x.mend(0), 0);
        due(x.told(2), 2);
        due(x.mend(9), 1);
        due(x.partner(0), 1);
        due(x.partner(2), 3);
        due(x.partner(4), 5);
        OddPartners y = house(7, 101, 201, 301, 3401, 5601);
        due(y.mend(1), 1);
        due(y.partner(0), 1);
        due(y.mend(2), 2);
        due(y.told(2), 3);
        due(y.mend(9), 0);
        due(new OddPartners().mend(9), 0);
    }

    private static void texts() {
        promise = 10;
        OddPartners x = new OddPartners();
        due(x.feed(-1), -2);
        due(x.feed(128), -2);
        due(x.feed(0), 1);
        due(x.feed(127), 2);
        for (int k = 3; k <= 100; k++) {
            due(x.feed('p'), k);
        }
        due(x.feed('p'), -4);
        due(x.feed(128), -2);
        due(x.count(4), 100);
        promise = 11;
        due(x.read(), -10);
        due(x.count(4), 0);
        due(x.read(), -10);
        due(read(x, "p"), 1);
        due(read(x, "p;p;w0120;m12;w017;w0299;m01;h060;h161;h12;w999;m02"), 7);
        due(x.told(0), 3);
        due(x.of(0, 1), 7);
        due(x.of(0, 2), 0);
        due(x.partner(0), 1);
        due(x.told(10), 62);
        due(read(new OddPartners(), "p;p;p"), 3);
        OddPartners again = new OddPartners();
        due(read(again, "p;p;p"), 3);
        due(read(again, "p"), 1);
        due(again.told(0), 4);
        due(read(x, "w0105;w001;h360"), 1);
        due(x.of(0, 1), 5);
        due(read(x, "w010"), 1);
        due(x.partner(0), -5);
        due(read(x, "p;p;p;p;p;p"), 4);
        due(read(x, "p;p;p;p;p;p;p;p;p;p;p;p"), 0);
        due(x.told(0), 7);
    }

    private static void textFaults() {
        promise = 11;
        OddPartners x = house(3);
        due(read(x, ";"), -10);
        due(read(x, "x"), -10);
        due(read(x, "P"), -10);
        due(read(x, "p;"), -12);
        due(read(x, "pp"), -11);
        due(read(x, "p "), -11);
        due(read(x, "p; p"), -12);
        due(read(x, "p;;p"), -12);
        due(read(x, "w"), -11);
        due(read(x, "w0"), -12);
        due(read(x, "w01"), -13);
        due(read(x, "w01;"), -13);
        due(read(x, "w01-1"), -13);
        due(read(x, "w01055"), -15);
        due(read(x, "w015p"), -14);
        due(read(x, "wa"), -11);
        due(read(x, "m0"), -12);
        due(read(x, "m0:"), -12);
        due(read(x, "m0/"), -12);
        due(read(x, "m012"), -13);
        due(read(x, "h"), -11);
        due(read(x, "h0"), -12);
        due(read(x, "h0;"), -12);
        due(read(x, "h0123"), -14);
        due(read(x, "h060;w0120;x"), -21);
        due(x.told(10), 0);
        due(x.of(0, 1), 0);
        due(x.told(0), 3);
        due(read(x, "p;p;p;p;p;p;p;p;p;p;p;p;"), -33);
        due(read(x, "p;p;p;p;p;p;p;p;p;p;p;p;p"), -33);
        due(read(x, "p;p;p;p;p;p;p;p;p;p;p;h0101"), -36);
        due(x.told(0), 3);
        due(x.count(4), 0);
        due(read(x, "p;p;p;p;p;p;p;p;p;p;p;h010"), 5);
        due(x.told(10), 10);
    }

    private static void ways() {
        promise = 12;
        OddPartners x = house(6, 101, 1201, 2301, 3401, 4501);
        due(x.way(-1), 2);
        pairUp(x, 12, 34);
        due(x.way(-1), 6);
        for (int k = 0; k < 6; k++) {
            due(x.way(k), k);
        }
        due(x.way(6), -1);
        due(x.way(-2), -1);
        due(x.way(GREATEST), -1);
        x.weigh(5, 1, 1);
        x.weigh(2, 5, 1);
        due(x.way(-1), 4);
        due(x.way(1), 1);
        due(x.way(2), 2);
        due(x.way(3), 5);
        pairUp(x, 5);
        x.weigh(2, 5, 0);
        x.weigh(5, 1, 0);
        x.weigh(0, 1, 0);
        due(x.way(-1), -5);
        due(x.way(-2), -5);
        due(x.way(9), -5);
        OddPartners y = house(5, 2401, 1301, 1401, 301);
        due(y.way(0), 0);
        due(y.way(1), 3);
        y.pair(0, 3);
        due(y.way(0), 1);
        due(y.way(1), 4);
        promise = 8;
        OddPartners z = house(6, 101, 1201, 2301, 301, 3401);
        z.pair(1, 2);
        due(z.way(1), 3);
        due(z.mend(1), 1);
        due(z.partner(0), 3);
        due(z.partner(1), 2);
    }

    private static void flowers() {
        promise = 13;
        OddPartners x = house(5, 101, 1201, 2301, 3401, 2401);
        due(x.flower(0, -1), -5);
        due(x.flower(1, 99), -5);
        due(x.flower(2, 0), -1);
        due(x.flower(-1, 0), -1);
        pairUp(x, 12, 34);
        due(x.flower(2, 0), -1);
        due(x.flower(0, -1), 3);
        due(x.flower(0, 0), 0);
        due(x.flower(0, 1), 1);
        due(x.flower(0, 2), 2);
        due(x.flower(0, 3), -1);
        due(x.flower(0, -2), -1);
        due(x.flower(1, -1), 3);
        due(x.flower(1, 0), 2);
        due(x.flower(1, 1), 3);
        due(x.flower(1, 2), 4);
        due(x.flower(1, 3), -1);
        due(x.flower(1, -2), -1);
        due(x.flower(1, GREATEST), -1);
        due(x.flower(0, LEAST), -1);
        promise = 14;
        due(x.shrunk(), 1);
        due(house(5, 101, 1201, 2301, 3401, 2401).shrunk(), -5);
        x.person();
        x.weigh(4, 5, 1);
        due(x.shrunk(), 2);
        x.person();
        x.weigh(3, 6, 1);
        due(x.shrunk(), 2);
        due(new OddPartners().shrunk(), -5);
    }

    private static void manyFlowers() {
        promise = 13;
        // rings of five at 0, of three at 0 through other people, and one on a stem of three
        OddPartners x = house(7, 401, 4501, 5601, 6301, 3001, 5301);
        pairUp(x, 45, 36);
        due(x.flower(0, -1), 1);
        due(x.flower(1, -1), 5);
        due(x.flower(1, 1), 3);
        due(x.flower(1, 2), 6);
        due(x.flower(1, 3), 5);
        due(x.flower(1, 4), 4);
        x.weigh(0, 6, 1);
        due(x.flower(1, -1), 3);
        due(x.flower(1, 1), 3);
        due(x.flower(1, 2), 6);
        x.weigh(0, 6, 0);
        x.weigh(3, 5, 0);
        x.weigh(1, 2, 1);
        due(x.flower(0, 0), 0);
        // five people both: the shorter STEM is nearer
        OddPartners y = house(6, 501, 5401, 4301, 3201, 2001, 1201, 4201);
        pairUp(y, 54, 23);
        y.weigh(3, 4, 0);
        y.weigh(2, 4, 1);
        y.weigh(3, 4, 1);
        due(y.flower(0, -1), 1);
        due(y.flower(1, -1), 5);
        due(y.flower(1, 1), 2);
        due(y.flower(1, 2), 3);
        due(y.flower(1, 3), 4);
        due(y.flower(1, 4), 5);
        promise = 14;
        due(y.shrunk(), 1);
    }

    private static void longFlowers() {
        promise = 13;
        OddPartners ring = house(7, 101, 1201, 2301, 3401, 4501, 5601, 601);
        pairUp(ring, 12, 34, 56);
        due(ring.flower(0, -1), 1);
        due(ring.flower(1, -1), 7);
        due(ring.flower(1, 6), 6);
        due(ring.flower(1, 7), -1);
        promise = 14;
        due(ring.shrunk(), 0);
        promise = 13;
        OddPartners stem = house(7, 101, 1201, 2301, 3401, 4501, 5601, 4601);
        pairUp(stem, 12, 34, 56);
        due(stem.flower(0, -1), 5);
        due(stem.flower(0, 4), 4);
        due(stem.flower(1, -1), 3);
        due(stem.flower(1, 0), 4);
        due(stem.flower(1, 1), 5);
        due(stem.flower(1, 2), 6);
        promise = 14;
        due(stem.shrunk(), 2);
        promise = 13;
        OddPartners half = house(7, 101, 1201, 2301, 3401, 4501, 5601, 2601);
        pairUp(half, 12, 34, 56);
        due(half.flower(0, -1), 3);
        due(half.flower(1, -1), 5);
        due(half.flower(1, 0), 2);
        due(half.flower(1, 4), 6);
        promise = 14;
        due(half.shrunk(), 1);
        // by how many PAIRS, whatever they weigh
        OddPartners heavy = house(7, 101, 1201, 201, 3401, 4509, 5601);
        heavy.pair(1, 2);
        due(heavy.shrunk(), 2);
        OddPartners outside = house(4, 1201, 2301, 1301, 201);
        outside.pair(2, 3);
        due(outside.flower(0, 0), 1);
        due(outside.shrunk(), 1);
    }

    private static void theBest() {
        promise = 15;
        OddPartners x = house(4, 103, 1207, 2303);
        due(x.best(0, 0), -5);
        due(x.best(0, 1), 2);
        due(x.best(1, 0), 1);
        due(x.best(1, 3), 2);
        due(x.best(2, 0), -2);
        due(x.best(-1, 99), -2);
        due(x.best(0, 4), -1);
        due(x.best(1, -1), -1);
        due(x.partner(1), -5);
        // alike by WEIGHT, unlike by number: HEAVY may have fewer PAIRS
        OddPartners y = house(4, 203, 1306, 2103, 310);
        due(y.best(0, 0), 3);
        due(y.best(0, 1), 2);
        OddPartners tie = house(3, 1204, 204);
        due(tie.best(0, 0), 2);
        due(tie.best(0, 1), -5);
        OddPartners equal = house(4, 1206, 103, 2303);
        due(equal.best(0, 0), 1);
        due(equal.best(1, 2), 3);
        OddPartners nobodyLast = house(3, 1205, 105, 205);
        due(nobodyLast.best(0, 0), 1);
        due(nobodyLast.best(0, 2), -5);
    }

    private static void toldNumbers() {
        promise = 16;
        OddPartners x = house(5, 103, 1207, 2303);
        pairUp(x, 12);
        x.halves(1, 10);
        x.halves(2, 4);
        x.halves(3, 2);
        int[] all = {5, 3, 1, 7, 3, 7, 1, 6, 2, 2, 16};
        for (int k = 0; k < all.length; k++) {
            due(x.told(k), all[k]);
        }
        due(x.told(11), -1);
        due(x.told(-1), -1);
        due(x.told(GREATEST), -1);
        x.odd(31, 3);
        due(x.told(10), 22);
        due(x.told(9), 0);
        x.odd(14, 5);
        due(x.told(10), 27);
        OddPartners none = house(3);
        due(none.told(9), 0);
        due(none.told(4), 3);
    }

    private static void partsAndBarriers() {
        promise = 17;
        OddPartners star = house(5, 101, 201, 301);
        due(star.parts(0), 30);
        due(star.parts(1), 1);
        due(star.parts(2), 0);
        due(star.parts(3), 1);
        due(star.parts(4), 3);
        due(star.parts(5), -1);
        due(star.parts(-1), -1);
        OddPartners apart = house(6, 101, 2301, 3401);
        due(apart.parts(0), 32 + 4 + 16);
        due(apart.parts(1), 8);
        due(apart.parts(2), 3);
        due(apart.parts(3), 0);
        due(apart.parts(4), 2);
        OddPartners ring = house(3, 101, 1201, 201);
        due(ring.parts(0), 7);
        due(ring.parts(3), 0);
        due(ring.parts(4), 1);
        OddPartners empty = new OddPartners();
        due(empty.parts(2), 0);
        due(empty.parts(3), 0);
        due(empty.parts(4), 0);
        // one middle alone is worse than none, both together are best
        OddPartners two = house(7, 201, 301, 401, 501, 601, 1201, 1301, 1401, 1501, 1601);
        due(two.parts(3), 3);
        due(two.parts(4), 3);
        // either middle is as good as the other one, or as both
        OddPartners either = house(6, 1401, 101, 1201, 3401, 4501);
        due(either.parts(3), 2);
        due(either.parts(4), 2);
        due(either.parts(1), 2 + 16);
        due(house(4, 101, 1201, 1301).parts(3), 2);
    }

    private static void losses() {
        promise = 18;
        OddPartners x = house(4, 103, 1207, 2303);
        due(x.loss(0), 0);
        due(x.loss(1), 4);
        due(x.loss(2), 4);
        due(x.loss(4), -1);
        due(x.loss(-1), -1);
        due(house(2, 120).loss(0), 20);
    }

    private static void halvesAndOddSets() {
        promise = 19;
        OddPartners x = house(5, 105, 1220);
        due(x.halves(0, 60), 0);
        due(x.halves(0, 61), -2);
        due(x.halves(0, -1), -2);
        due(x.halves(0, 1), 60);
        due(x.halves(5, 61), -1);
        due(x.halves(-1, 0), -1);
        due(x.told(10), 1);
        promise = 20;
        due(x.odd(7, 0), -2);
        due(x.odd(7, 41), -2);
        due(x.odd(0, 1), -2);
        due(x.odd(1, 1), -2);
        due(x.odd(3, 1), -2);
        due(x.odd(15, 1), -2);
        due(x.odd(32 + 3, 1), -2);
        due(x.odd(-2, 1), -2);
        due(x.odd(LEAST, 1), -2);
        due(x.odd(GREATEST, 1), -2);
        due(x.odd(31, 40), 1);
        due(x.odd(7, 1), 2);
        due(x.odd(7, 1), 3);
        due(x.odd(7, 1), -4);
        due(x.odd(3, 1), -2);
        due(x.count(0), 3);
        due(x.told(10), 1 + 80 + 2);
        due(x.odd(-1, 77), 0);
        due(x.count(0), 0);
        due(x.odd(7, 2), 1);
        promise = 21;
        due(x.bear(), 5 + 20 + 20);
        due(x.count(0), 0);
        due(x.halves(0, 0), 5);
        due(x.halves(1, 0), 20);
        due(x.halves(4, 0), 0);
        due(new OddPartners().bear(), 0);
        OddPartners first = house(3, 104, 209);
        due(first.bear(), 9 + 4 + 9);
        due(first.halves(1, 0), 4);
        due(first.halves(2, 0), 9);
    }

    private static void proofs() {
        promise = 22;
        OddPartners x = house(5, 102, 1202, 202, 3403);
        due(x.proof(-1), -1);
        due(x.proof(LEAST), -1);
        due(x.proof(0), 1);
        due(x.proof(1), 1);
        due(x.proof(2), 4);
        due(x.proof(3), -5);
        x.halves(0, 1);
        x.halves(1, 3);
        due(x.proof(1), 2);
        due(x.proof(2), 3);
        x.halves(0, 0);
        x.halves(1, 0);
        x.odd(7, 4);
        due(x.proof(0), 1);
        due(x.proof(1), 34);
        due(x.proof(2), 6);
        x.halves(4, 7);
        due(x.proof(0), 2);
        due(x.proof(1), 7);
        due(x.proof(2), 0);
        x.pair(0, 1);
        due(x.proof(0), 3);
        due(x.proof(1), 4);
        due(x.proof(2), 7);
        x.pair(4, 3);
        due(x.proof(0), 4);
        due(x.proof(1), 34);
        due(x.proof(2), 1);
        x.halves(4, 6);
        due(x.proof(0), -5);
        due(x.proof(1), -5);
        due(x.proof(2), -5);
        due(x.proof(GREATEST), -5);
        x.odd(31, 1);
        due(x.proof(0), 4);
        due(x.proof(1), 1);
        due(x.proof(2), 1);
        due(new OddPartners().proof(0), -5);
        // ODD SETS that are told no more, and such as hold but one of two
        OddPartners y = house(5, 102, 3401);
        y.odd(7, 4);
        due(y.told(9), 1);
        y.odd(-1, 0);
        due(y.told(9), 0);
        due(y.proof(2), 4);
        y.halves(0, 4);
        y.halves(3, 2);
        y.take(0);
        due(y.told(9), 2);
        due(y.proof(0), -5);
        y.odd(1 + 4 + 8, 1);
        due(y.told(9), 2);
        due(y.proof(0), 2);
        due(y.proof(1), 13);
        y.odd(-1, 0);
        due(y.proof(0), -5);
        y.alone(0);
        y.halves(2, 1);
        due(y.proof(0), 3);
        due(y.proof(1), 0);
        due(y.proof(2), 4);
        y.pair(0, 1);
        due(y.proof(1), 2);
        due(y.proof(2), 1);
    }

    private static void seenAndFits() {
        promise = 23;
        OddPartners x = house(4, 103, 1207, 2303);
        due(x.see(0, 4), -1);
        due(x.see(0, 0), -1);
        due(x.see(-2, 0), -1);
        due(x.see(0, -1), -1);
        promise = 24;
        due(x.fits(1, 2, 0), 21);
        due(x.fits(1, 2, 1), 0);
        promise = 23;
        due(x.see(2, 1), 1);
        promise = 24;
        due(x.fits(1, 2, 0), 14);
        due(x.fits(2, 1, 1), 7);
        due(x.fits(0, 1, 0), 4);
        due(x.fits(0, 1, 1), 0);
        due(x.fits(0, 3, 0), 21);
        due(x.fits(0, 0, 0), -1);
        due(x.fits(0, 4, 0), -1);
        due(x.fits(0, 1, 2), -1);
        due(x.fits(0, 1, -1), -1);
        promise = 23;
        due(x.see(1, 0), 2);
        promise = 24;
        due(x.fits(1, 2, 0), 0);
        due(x.fits(1, 2, 1), -5);
        due(x.of(1, 2), 7);
        promise = 23;
        due(x.see(0, 1), 3);
        due(x.see(0, 1), 4);
        due(x.see(0, 1), 5);
        due(x.see(0, 1), -4);
        due(x.see(0, 9), -1);
        due(x.count(1), 5);
        due(x.see(-1, 99), 0);
        due(x.count(1), 0);
    }

    private static void oddsAndMeans() {
        promise = 25;
        OddPartners x = house(4, 103, 1207, 2303);
        due(x.odds(1, 2, 0), 3);
        due(x.odds(1, 2, 1), 10);
        due(x.odds(0, 1, 0), 3);
        due(x.odds(0, 1, 1), 5);
        due(x.odds(1, 3, 0), 1);
        due(x.odds(1, 3, 1), 5);
        due(house(3, 120).odds(1, 2, 0), 0);
        due(house(3, 120).odds(1, 2, 1), 1);
        due(x.odds(0, 3, 0), 9);
        due(x.odds(3, 0, 1), 10);
        due(x.odds(0, 1, 2), NO);
        due(x.odds(0, 1, -1), NO);
        due(x.odds(0, 0, 0), NO);
        due(x.odds(0, 4, 0), NO);
        due(x.odds(-1, 0, 0), NO);
        promise = 26;
        due(x.mean(0), NO);
        due(x.mean(1), NO);
        pairUp(x, 1, 23);
        due(x.mean(0), 3);
        due(x.mean(1), 1);
        x.alone(2);
        due(x.mean(0), 3);
        due(x.mean(1), 1);
        x.pair(2, 3);
        x.weigh(2, 3, 4);
        due(x.mean(0), 7);
        due(x.mean(1), 2);
        due(x.mean(2), NO);
        due(x.mean(-1), NO);
    }

    private static void events() {
        promise = 27;
        OddPartners x = house(4, 119, 1202, 2320);
        due(x.event(4, 0), -1);
        due(x.event(-2, 0), -1);
        due(x.event(0, 4), -1);
        due(x.event(1, -1), -1);
        due(x.event(2, -1), -2);
        due(x.event(2, 21), -2);
        promise = 28;
        due(x.after(0), 39);
        due(x.after(1), 2);
        due(x.after(2), 0);
        due(x.after(3), -1);
        due(x.after(-1), -1);
        promise = 27;
        due(x.event(1, 0), 1);
        promise = 28;
        due(x.after(0), 40);
        promise = 27;
        due(x.event(1, 1), 2);
        promise = 28;
        due(x.after(0), 40);
        promise = 27;
        due(x.event(2, 3), 3);
        promise = 28;
        due(x.after(0), 40);
        promise = 27;
        due(x.event(2, 20), 4);
        due(x.event(0, 3), 5);
        promise = 28;
        due(x.after(0), 20);
        due(x.after(1), 1);
        due(x.after(2), 2);
        promise = 27;
        due(x.event(3, LEAST), 6);
        promise = 28;
        due(x.after(0), 1);
        promise = 27;
        due(x.event(2, 0), 7);
        due(x.event(2, 20), 8);
        due(x.event(2, 20), -4);
        due(x.event(2, 21), -2);
        due(x.count(2), 8);
        promise = 28;
        due(x.after(0), 0);
        due(x.after(1), 0);
        due(x.after(2), 4);
        due(x.of(0, 1), 19);
        promise = 27;
        due(x.event(-1, 99), 0);
        due(x.count(2), 0);
        promise = 28;
        x.event(0, 1);
        x.event(1, 1);
        due(x.after(0), 20);
        x.event(-1, 0);
        x.take(1);
        x.alone(0);
        due(x.after(2), 0);
        OddPartners y = house(4, 103, 1207, 2303);
        y.event(3, 0);
        due(y.after(0), 2);
        due(y.after(1), 2);
        due(y.after(2), 4);
        due(y.told(5), 7);
        // after(1) is by MOST, though HEAVY has one PAIR
        y.event(-1, 0);
        due(y.after(1), 2);
        due(y.after(0), 7);
        due(y.after(2), 0);
        OddPartners warm = house(3, 103, 1208);
        warm.event(1, 0);
        due(warm.after(0), 8);
        warm.event(-1, 0);
        warm.event(1, 2);
        due(warm.after(0), 9);
        warm.event(2, 9);
        due(warm.after(0), 9);
        due(warm.after(1), 1);
    }

    private static void books() {
        OddPartners x = house(4, 103, 1207, 2303);
        pairUp(x, 1, 23);
        promise = 30;
        due(x.looked(), -5);
        promise = 29;
        due(x.book(1, 0), 1);
        due(x.book(0, 1), 2);
        due(x.book(1, 1), -1);
        due(x.book(1, 4), -1);
        due(x.book(-2, 1), -1);
        due(x.book(2, -1), -1);
        promise = 30;
        due(x.looked(), -5);
        promise = 29;
        due(x.book(2, 3), 3);
        due(x.book(1, 2), 4);
        promise = 30;
        due(x.looked(), 3);
        x.alone(3);
        due(x.looked(), 2);
        x.alone(0);
        due(x.looked(), 0);
        promise = 29;
        for (int k = 5; k <= 8; k++) {
            due(x.book(0, 3), k);
        }
        due(x.book(0, 3), -4);
        due(x.book(0, 0), -1);
        due(x.count(3), 8);
        due(x.book(-1, -1), 0);
        due(x.count(3), 0);
        promise = 30;
        due(x.looked(), -5);
    }

    private static void judged() {
        promise = 31;
        OddPartners x = new OddPartners();
        due(x.judge(0, 0), -5);
        due(x.judge(0, -7), -5);
        due(x.judge(-1, 0), -1);
        due(x.judge(6, 0), -1);
        x.tape(1, 2, 9);
        due(x.judge(1, 0), -12);
        x = house(3, 103);
        x.pair(0, 1);
        due(x.judge(0, 0), 100);
        x.tape(0, 3, 4);
        x.item(0, 1, 1);
        x.item(0, 2, 0);
        x.item(0, 3, -1);
        due(x.judge(0, 1), -5);
        due(x.judge(0, 0), 0);
        due(x.judge(0, 2), 0);
        due(x.judge(0, 3), 0);
        due(x.judge(0, 4), 100);
        due(x.judge(0, -1), 100);
        due(x.judge(0, LEAST), 100);
        due(x.judge(0, GREATEST), 100);
        x.item(0, 3, -5);
        due(x.judge(0, 1), 2);
        x.item(0, 2, 1L << 32);
        due(x.judge(0, 1), 1);
        x.item(0, 3, 1);
        due(x.judge(0, 3), 101);
        x.tape(0, 3, 3);
        for (int k = 0; k < 3; k++) {
            x.item(0, k, -1);
        }
        due(x.judge(0, 0), 0);
        x.alone(0);
        due(x.judge(0, 0), -5);
        x.pair(0, 1);
        x.weigh(0, 1, 0);
        due(x.judge(0, 0), -5);
        x.take(0);
        due(x.judge(0, 0), -5);
        x.weigh(0, 2, 1);
        x.take(0);
        x.item(0, 0, 2);
        x.item(0, 2, 0);
        due(x.judge(0, 0), -5);
        x.tape(0, 4, 4);
        due(x.judge(0, -1), -12);
        x.tape(0, -1, 4);
        due(x.judge(0, 1), 100);
        x.tape(0, 3, 0);
        due(x.judge(0, 0), 100);
    }

    private static void images() {
        promise = 33;
        OddPartners x = house(4, 103, 1207, 2303);
        due(x.undo(), -3);
        x.pair(0, 1);
        x.halves(2, 9);
        x.odd(7, 4);
        x.see(1, 2);
        x.event(0, 1);
        x.book(0, 1);
        x.feed('p');
        promise = 32;
        due(x.image(), 4);
        x.person();
        x.weigh(0, 1, 0);
        x.weigh(3, 4, 9);
        x.pair(3, 4);
        x.halves(2, 0);
        x.halves(4, 8);
        x.odd(-1, 0);
        x.see(-1, 0);
        x.event(-1, 0);
        x.event(2, 9);
        x.event(2, 9);
        x.book(2, 3);
        x.feed(';');
        x.tape(0, 0, 1);
        x.item(0, 0, 7);
        promise = 33;
        due(x.undo(), 4);
        due(x.told(0), 4);
        due(x.of(0, 1), 3);
        due(x.partner(0), 1);
        due(x.partner(3), -5);
        due(x.told(10), 13);
        due(x.proof(0), 1);
        due(x.count(0), 1);
        due(x.count(1), 1);
        due(x.count(2), 1);
        due(x.count(3), 1);
        due(x.count(4), 2);
        due(x.after(0), 3);
        due(x.fits(1, 2, 1), 7);
        due(x.looked(), -5);
        due(x.peek(0, 0), 7);
        due(x.person(), 4);
        due(x.of(3, 4), 0);
        due(x.partner(4), -5);
        due(x.halves(4, 1), 0);
        due(x.undo(), 4);
        due(x.told(0), 4);
        due(x.told(10), 13);
        promise = 32;
        x.person();
        due(x.image(), 5);
        promise = 33;
        due(x.undo(), 5);
        OddPartners empty = new OddPartners();
        promise = 32;
        due(empty.image(), 0);
        empty.person();
        promise = 33;
        due(empty.undo(), 0);
        due(empty.told(0), 0);
        promise = 34;
        due(x.count(-1), -2);
        due(x.count(5), -2);
        due(x.count(LEAST), -2);
        due(x.count(4), 2);
    }

    private static void tapes() {
        promise = 35;
        OddPartners x = new OddPartners();
        due(x.tape(-1, 0, 1), -1);
        due(x.tape(6, 9, 1), -1);
        due(x.tape(0, -2, 1), -2);
        due(x.tape(0, 5, -1), -2);
        due(x.tape(0, 0, 61), -2);
        due(x.tape(0, 0, -1), -14);
        due(x.tape(0, 0, LEAST), -14);
        due(x.tape(0, -1, LEAST), 1);
        due(x.tape(0, -1, 61), 1);
        due(x.tape(5, 3, 60), 1);
        due(x.peek(5, 59), 0);
        due(x.peek(5, 60), NO);
        promise = 36;
        due(x.item(5, 59, Long.MAX_VALUE), 1);
        due(x.item(5, 60, 1), -13);
        due(x.item(5, -1, 1), -13);
        due(x.item(0, 0, 1), -11);
        due(x.item(6, 0, 1), -1);
        due(x.item(-1, 0, 1), -1);
        due(x.peek(5, 59), Long.MAX_VALUE);
        long v = 0x1_8765_8421_9A83L;
        long[] due = {(byte) 0x83, (short) 0x9A83, 0x84219A83, v, 1};
        for (int sort = 0; sort <= 4; sort++) {
            due(x.tape(sort, sort, 2), 1);
            due(x.item(sort, 1, v), 1);
            due(x.peek(sort, 1), due[sort]);
            due(x.peek(sort, 0), 0);
        }
        due(x.item(4, 0, 256), 1);
        due(x.peek(4, 0), 1);
        due(x.item(4, 0, 0), 1);
        due(x.peek(4, 0), 0);
        promise = 37;
        due(x.peek(4, 2), NO);
        due(x.peek(4, -1), NO);
        due(x.peek(6, 0), NO);
        due(x.peek(-1, 0), NO);
        promise = 35;
        due(x.tape(3, 3, 2), 1);
        due(x.peek(3, 1), 0);
        due(x.tape(3, -1, 0), 1);
        due(x.item(3, 0, 0), -11);
        promise = 37;
        due(x.peek(3, 0), NO);
        due(x.tape(3, 3, 0), 1);
        due(x.peek(3, 0), NO);
        due(x.item(3, 0, 0), -13);
    }

    private static void shifts() {
        promise = 38;
        OddPartners x = new OddPartners();
        x.tape(0, 2, 5);
        x.tape(1, 2, 3);
        x.tape(2, 3, 3);
        for (int k = 0; k < 5; k++) {
            x.item(0, k, 10 + k);
        }
        due(x.shift(0, 0, 6, 0, 1), -1);
        due(x.shift(-1, 0, 3, 0, 1), -1);
        due(x.shift(0, 0, 3, 0, 1), -11);
        due(x.shift(3, 0, 0, 0, 1), -11);
        due(x.shift(0, 0, 2, 0, -1), -12);
        due(x.shift(0, 0, 1, 0, -1), -13);
        due(x.shift(0, -1, 1, 0, 1), -13);
        due(x.shift(0, 0, 1, -1, 1), -13);
        due(x.shift(0, 4, 1, 0, 2), -13);
        due(x.shift(0, 0, 1, 2, 2), -13);
        due(x.shift(0, 0, 1, 0, 4), -13);
        due(x.shift(0, GREATEST, 1, 0, 1), -13);
        due(x.shift(0, 0, 1, GREATEST, GREATEST), -13);
        due(x.shift(0, 6, 1, 0, 0), -13);
        due(x.shift(0, 5, 1, 3, 0), 0);
        due(x.shift(0, 1, 1, 0, 3), 3);
        due(x.peek(1, 0), 11);
        due(x.peek(1, 2), 13);
        due(x.peek(0, 1), 11);
        due(x.shift(0, 0, 0, 1, 4), 4);
        long[] up = {10, 10, 11, 12, 13};
        for (int k = 0; k < 5; k++) {
            due(x.peek(0, k), up[k]);
        }
        due(x.shift(0, 2, 0, 1, 3), 3);
        long[] down = {10, 11, 12, 13, 13};
        for (int k = 0; k < 5; k++) {
            due(x.peek(0, k), down[k]);
        }
    }
}
