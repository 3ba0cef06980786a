/** Ways, mending, flowers: promises 8 and 12 to 14. */
final class WayBounds extends Bounds {
    @Override
    void run() {
        endsAreFree();
        turns();
        theWay();
        toMend();
        stemBegins();
        stemTurns();
        ringIsOdd();
        ringTurns();
        theFlower();
        theFlowerByItsStem();
        shrunkNet();
        mended();
        mendRefused();
        wayTold();
        noWay();
        noSuchPlaceOfTheWay();
        flowerTold();
        noSuchPartOfTheFlower();
        noFlower();
        noSuchPlaceOfTheFlower();
        shrunkTold();
        shrunkWithoutFlower();
    }

    /** 0 - 1 = 2 - 3 = 4 - 5: a WAY of six, if all stands; 6 is FREE. */
    private static OddPartners longWay() {
        OddPartners x = house(7, 101, 1201, 2301, 3401, 4501);
        pairUp(x, 12, 34);
        return x;
    }

    private static void wayIs(OddPartners x, int... people) {
        due(x.way(-1), people.length);
        for (int k = 0; k < people.length; k++) {
            due(x.way(k), people[k]);
        }
        due(x.way(people.length), -1);
    }

    private static void flowerIs(OddPartners x, int[] stem, int... ring) {
        due(x.flower(0, -1), stem.length);
        for (int k = 0; k < stem.length; k++) {
            due(x.flower(0, k), stem[k]);
        }
        due(x.flower(0, stem.length), -1);
        due(x.flower(1, -1), ring.length);
        for (int k = 0; k < ring.length; k++) {
            due(x.flower(1, k), ring[k]);
        }
        due(x.flower(1, ring.length), -1);
    }

    private static int[] stem(int... people) {
        return people;
    }

    private static void endsAreFree() {
        of("Terms", "A WAY: PEOPLE, all unlike, the first and the last one FREE;");
        // round the ring and back to 0: not all unlike
        OddPartners ring = house(3, 101, 1201, 201);
        ring.pair(1, 2);
        due(ring.way(-1), -5);
        // 0 to 3 only twice over the same PAIR
        OddPartners twice = house(4, 101, 1201, 1301);
        twice.pair(1, 2);
        due(twice.way(-1), -5);
        // the last one isn't FREE, then nobody is
        OddPartners path = house(4, 101, 1201, 2301);
        path.pair(1, 2);
        wayIs(path, 0, 1, 2, 3);
        OddPartners held = house(5, 101, 1201, 2301, 3401);
        pairUp(held, 12, 34);
        due(held.way(-1), -5);
        held.alone(3);
        wayIs(held, 3, 4);
        OddPartners all = house(2, 101);
        all.pair(0, 1);
        due(all.way(-1), -5);
        all.alone(0);
        wayIs(all, 0, 1);
        due(house(1).way(-1), -5);
    }

    private static void turns() {
        of("Terms", "the first and the second LINKED, the second and the third a PAIR, and so on by turns, "
                + "the last two LINKED.");
        wayIs(longWay(), 0, 1, 2, 3, 4, 5);
        for (int[] link : new int[][] {{0, 1}, {2, 3}, {4, 5}}) {
            OddPartners x = longWay();
            x.weigh(link[0], link[1], 0);
            due(x.way(-1), -5);
        }
        // without a PAIR of it the two that it was are FREE, and LINKED still
        OddPartners x = longWay();
        x.alone(1);
        wayIs(x, 0, 1);
        x.weigh(0, 1, 0);
        wayIs(x, 1, 2);
        x.weigh(1, 2, 0);
        wayIs(x, 2, 3, 4, 5);
        // LINKED where a PAIR is asked for
        OddPartners y = house(6, 101, 1201, 2301, 1401, 2501);
        pairUp(y, 14, 25);
        due(y.way(-1), -5);
        due(house(2).way(-1), -5);
        wayIs(house(2, 101), 0, 1);
    }

    private static void theWay() {
        of("Terms", "THE WAY: that of fewest PEOPLE; of several that with the least first one, "
                + "of several of these the least second one, and so on.");
        // four PEOPLE 0, 1, 2, 3, but two 5, 6
        OddPartners x = house(7, 101, 1201, 2301, 5601);
        x.pair(1, 2);
        wayIs(x, 5, 6);
        x.weigh(5, 6, 0);
        wayIs(x, 0, 1, 2, 3);
        // six 0 to 5, but four 3, 4 ..
        OddPartners four = house(7, 101, 1201, 2301, 3401, 4501, 3601);
        pairUp(four, 12, 34);
        wayIs(four, 5, 4, 3, 6);
        // the least first one, though the second one is greater
        OddPartners first = house(7, 601, 1201);
        wayIs(first, 0, 6);
        first.weigh(0, 6, 0);
        wayIs(first, 1, 2);
        OddPartners second = house(7, 601, 501);
        wayIs(second, 0, 5);
        // the third one is the partner of the second: the least second, though the fourth is greater
        OddPartners fourth = house(7, 201, 2501, 5601, 301, 3401, 4101);
        pairUp(fourth, 25, 34);
        wayIs(fourth, 0, 2, 5, 6);
        fourth.weigh(0, 2, 0);
        wayIs(fourth, 0, 3, 4, 1);
        OddPartners last = house(6, 101, 1201, 2501, 2401);
        last.pair(1, 2);
        wayIs(last, 0, 1, 2, 4);
        // of six: the fourth and the sixth
        OddPartners six = house(7, 101, 1201, 2301, 3401, 4601, 4501);
        pairUp(six, 12, 34);
        wayIs(six, 0, 1, 2, 3, 4, 5);
        OddPartners other = house(6, 101, 1201, 2301, 3401, 4501, 2401, 3501);
        pairUp(other, 12, 34);
        wayIs(other, 0, 1, 2, 3, 4, 5);
        other.weigh(2, 3, 0);
        wayIs(other, 0, 1, 2, 4, 3, 5);
    }

    private static void toMend() {
        of("Terms", "To MEND: all PAIRS of THE WAY are none any more, all others that stand one behind the other "
                + "in it are PAIRS.");
        OddPartners x = longWay();
        due(x.mend(1), 1);
        int[] partners = {1, 0, 3, 2, 5, 4, -5};
        for (int p = 0; p < 7; p++) {
            due(x.partner(p), partners[p]);
        }
        due(x.told(2), 3);
        // a PAIR that isn't of THE WAY stays
        OddPartners y = house(6, 101, 1201, 2301, 4501);
        pairUp(y, 12, 45);
        due(y.mend(1), 1);
        due(y.partner(0), 1);
        due(y.partner(2), 3);
        due(y.partner(4), 5);
        due(y.of(1, 2), 1);
    }

    private static void stemBegins() {
        of("Terms", "A FLOWER: a STEM: PEOPLE, all unlike, an odd number of them (perhaps one alone), "
                + "the first one FREE;");
        OddPartners alone = house(3, 101, 1201, 201);
        alone.pair(1, 2);
        flowerIs(alone, stem(0), 0, 1, 2);
        // nobody FREE, then one who is LINKED to nobody
        OddPartners held = house(5, 101, 1201, 201, 301);
        pairUp(held, 12, 3);
        due(held.flower(0, -1), -5);
        held.alone(3);
        flowerIs(held, stem(0), 0, 1, 2);
        // of two: 0 is LINKED to the ring's 1, whose partner is outside
        OddPartners two = house(5, 101, 1401, 1201, 2301, 3101);
        pairUp(two, 14, 23);
        due(two.flower(0, -1), -5);
        OddPartners three = house(5, 101, 1201, 2301, 3401, 2401);
        pairUp(three, 12, 34);
        flowerIs(three, stem(0, 1, 2), 2, 3, 4);
        OddPartners five = house(7, 101, 1201, 2301, 3401, 4501, 5601, 4601);
        pairUp(five, 12, 34, 56);
        flowerIs(five, stem(0, 1, 2, 3, 4), 4, 5, 6);
        due(house(1).flower(0, -1), -5);
    }

    private static void stemTurns() {
        of("Terms", "the first and the second LINKED, the second and the third a PAIR, and so on by turns; "
                + "and a RING:");
        for (int[] link : new int[][] {{0, 1}, {1, 2}, {2, 3}, {3, 4}}) {
            OddPartners x = house(7, 101, 1201, 2301, 3401, 4501, 5601, 4601);
            pairUp(x, 12, 34, 56);
            flowerIs(x, stem(0, 1, 2, 3, 4), 4, 5, 6);
            x.weigh(link[0], link[1], 0);
            boolean isPair = link[0] % 2 == 1;
            // a PAIR's two are FREE then, and the second of them begins a STEM
            due(x.flower(0, -1), !isPair ? -5 : link[0] == 1 ? 3 : 1);
        }
    }

    private static void ringIsOdd() {
        of("Terms", "PEOPLE, all unlike, an odd number, 3 at least, the first one (the BASE) is the STEM's last one, "
                + "none else is of the STEM;");
        // rings of two, of four, of six
        OddPartners two = house(3, 101, 1201);
        two.pair(1, 2);
        due(two.flower(1, -1), -5);
        OddPartners four = house(5, 101, 1201, 2301, 301, 3401);
        pairUp(four, 12, 34);
        due(four.flower(1, -1), -5);
        OddPartners six = house(6, 101, 1201, 2301, 3401, 4501, 501);
        pairUp(six, 12, 34);
        due(six.flower(1, -1), -5);
        OddPartners five = house(5, 101, 1201, 2301, 3401, 401);
        pairUp(five, 12, 34);
        flowerIs(five, stem(0), 0, 1, 2, 3, 4);
        OddPartners seven = house(7, 101, 1201, 2301, 3401, 4501, 5601, 601);
        pairUp(seven, 12, 34, 56);
        flowerIs(seven, stem(0), 0, 1, 2, 3, 4, 5, 6);
        due(house(2, 101).flower(1, -1), -5);
    }

    private static void ringTurns() {
        of("Terms", "the first and the second LINKED, no PAIR, the second and the third a PAIR, and so on by turns; "
                + "the last and the first LINKED, no PAIR.");
        for (int[] link : new int[][] {{0, 1}, {1, 2}, {2, 3}, {3, 4}, {0, 4}}) {
            OddPartners x = house(5, 101, 1201, 2301, 3401, 401);
            pairUp(x, 12, 34);
            x.weigh(link[0], link[1], 0);
            due(x.flower(1, -1), -5);
        }
        // LINKED ones that are no PAIR where one is asked for
        OddPartners y = house(5, 101, 1201, 2301, 3401, 401);
        y.pair(1, 2);
        due(y.flower(1, -1), -5);
        OddPartners z = house(3, 101, 1201, 201);
        due(z.flower(1, -1), -5);
        // the BASE's PAIR is of the STEM alone
        OddPartners back = house(5, 101, 1201, 2301, 3401, 1401);
        pairUp(back, 12, 34);
        due(back.flower(1, -1), -5);
    }

    private static void theFlower() {
        of("Terms", "THE FLOWER: that of fewest PEOPLE together, of several that with fewest in the STEM,");
        // five round 0, but three at 5
        OddPartners x = house(6, 101, 1201, 2301, 3401, 401, 3501, 4501);
        pairUp(x, 12, 34);
        flowerIs(x, stem(5), 5, 3, 4);
        // five with a STEM of three at 0, but of one at 5
        OddPartners y = house(6, 101, 1201, 2301, 3401, 2401, 1501, 4501);
        pairUp(y, 12, 34);
        flowerIs(y, stem(5), 5, 1, 2, 3, 4);
        // seven with a STEM of five, of three, of one
        OddPartners seven = house(7, 101, 1201, 2301, 3401, 4501, 5601, 4601);
        pairUp(seven, 12, 34, 56);
        flowerIs(seven, stem(0, 1, 2, 3, 4), 4, 5, 6);
        seven.weigh(2, 6, 1);
        flowerIs(seven, stem(0, 1, 2), 2, 3, 4, 5, 6);
        seven.weigh(0, 6, 1);
        flowerIs(seven, stem(0), 0, 1, 2, 3, 4, 5, 6);
    }

    private static void theFlowerByItsStem() {
        of("Terms", "of several of these that with the least first one of the STEM, the least second one, and so on, "
                + "then of the RING.");
        // three at 0 through 5, 6, three at 1 through 2, 3
        OddPartners first = house(7, 501, 5601, 601, 1201, 2301, 1301);
        pairUp(first, 56, 23);
        flowerIs(first, stem(0), 0, 5, 6);
        // the STEM's second one, though its third and the RING are greater
        OddPartners second = house(7, 101, 1601, 201, 2301, 4501, 6401, 6501, 3401, 3501);
        pairUp(second, 16, 23, 45);
        flowerIs(second, stem(0, 1, 6), 6, 4, 5);
        second.weigh(0, 1, 0);
        flowerIs(second, stem(0, 2, 3), 3, 4, 5);
        // the same STEM: the RING's second one
        OddPartners ring = house(7, 201, 2301, 301, 101, 1601, 601);
        pairUp(ring, 23, 16);
        flowerIs(ring, stem(0), 0, 1, 6);
        ring.weigh(0, 6, 0);
        flowerIs(ring, stem(0), 0, 2, 3);
        // of a RING of five the fourth one
        OddPartners five = house(7, 101, 1201, 2301, 3601, 601, 2401, 4501, 501);
        pairUp(five, 12, 36, 45);
        flowerIs(five, stem(0), 0, 1, 2, 3, 6);
        five.weigh(2, 3, 0);
        flowerIs(five, stem(0), 0, 1, 2, 4, 5);
    }

    private static void shrunkNet() {
        of("Terms", "SHRUNK: how many PAIRS there can be at most in a net where all of the RING of THE FLOWER are "
                + "one, LINKED to whom one of them is.");
        OddPartners ring = house(7, 101, 1201, 201);
        ring.pair(1, 2);
        due(ring.shrunk(), 0);
        ring.weigh(0, 3, 1);
        due(ring.shrunk(), 1);
        ring.weigh(0, 3, 0);
        ring.weigh(2, 3, 20);
        due(ring.shrunk(), 1);
        // the RING is one: it has but one partner
        ring.weigh(1, 4, 20);
        due(ring.shrunk(), 1);
        ring.weigh(0, 5, 20);
        due(ring.shrunk(), 1);
        ring.weigh(3, 4, 1);
        due(ring.shrunk(), 2);
        // most PAIRS, not the heaviest
        OddPartners path = house(6, 101, 1201, 201, 2320, 3401, 4501);
        path.pair(1, 2);
        due(path.shrunk(), 2);
        path.weigh(3, 4, 20);
        path.weigh(2, 3, 1);
        path.weigh(4, 5, 1);
        due(path.shrunk(), 2);
        // the STEM isn't of the one
        OddPartners stem = house(7, 101, 1201, 2301, 3401, 4501, 5601, 4601);
        pairUp(stem, 12, 34, 56);
        due(stem.shrunk(), 2);
        OddPartners seven = house(7, 101, 1201, 2301, 3401, 4501, 5601, 601);
        pairUp(seven, 12, 34, 56);
        due(seven.shrunk(), 0);
    }

    private static void mended() {
        of("Promise 8", "Is MENDED, as long as there is a WAY, n times at most (0 .. 9): how many times.");
        OddPartners x = house(7, 101, 2301, 4501);
        due(x.mend(0), 0);
        due(x.told(2), 0);
        due(x.mend(1), 1);
        due(x.told(2), 1);
        due(x.mend(2), 2);
        due(x.told(2), 3);
        due(x.mend(9), 0);
        due(house(7, 101, 2301, 4501).mend(9), 3);
        due(house(7, 101, 2301, 4501).mend(3), 3);
        due(house(7, 101, 2301, 4501).mend(2), 2);
        due(house(7).mend(9), 0);
        due(new OddPartners().mend(9), 0);
        due(longWay().mend(9), 1);
    }

    private static void mendRefused() {
        of("Promise 8", "BAD.");
        keeps(Houses::much, x -> x.mend(-1), -2);
        keeps(Houses::much, x -> x.mend(10), -2);
        keeps(Houses::much, x -> x.mend(LEAST), -2);
        keeps(Houses::much, x -> x.mend(GREATEST), -2);
        keeps(Houses::much, x -> x.mend(0), 0);
        OddPartners x = longWay();
        due(x.mend(-1), -2);
        due(x.mend(10), -2);
        due(x.told(2), 2);
    }

    private static void wayTold() {
        of("Promise 12", "The k-th PERSON (from 0) of THE WAY; k -1: how many.");
        OddPartners x = longWay();
        due(x.way(-1), 6);
        for (int k = 0; k < 6; k++) {
            due(x.way(k), k);
        }
        OddPartners y = house(7, 6501);
        due(y.way(-1), 2);
        due(y.way(0), 5);
        due(y.way(1), 6);
        keeps(WayBounds::twoFree, z -> z.way(-1), 4);
        keeps(WayBounds::twoFree, z -> z.way(3), 5);
    }

    private static void twoFree(OddPartners x) {
        much(x);
        x.person();
        x.weigh(2, 5, 9);
    }

    private static void noWay() {
        of("Promise 12", "-5: there is none (whatever k is);");
        OddPartners x = house(3, 101);
        x.pair(0, 1);
        for (int k : new int[] {-1, 0, 1, 2, 7, -2, LEAST, GREATEST}) {
            due(x.way(k), -5);
            due(new OddPartners().way(k), -5);
        }
        keeps(Houses::much, y -> y.way(0), -5);
    }

    private static void noSuchPlaceOfTheWay() {
        of("Promise 12", "NONE: k.");
        OddPartners x = house(4, 101, 1201, 2301);
        x.pair(1, 2);
        due(x.way(3), 3);
        due(x.way(4), -1);
        due(x.way(-2), -1);
        due(x.way(7), -1);
        due(x.way(LEAST), -1);
        due(x.way(GREATEST), -1);
        // a longer one before leaves nothing behind
        OddPartners shorter = house(7, 101, 1201, 2301, 3401, 4501);
        pairUp(shorter, 12, 34);
        due(shorter.way(5), 5);
        shorter.weigh(0, 5, 1);
        due(shorter.way(-1), 2);
        for (int k = 2; k <= 60; k++) {
            due(shorter.way(k), -1);
            due(x.way(k + 2), -1);
        }
        keeps(WayBounds::twoFree, y -> y.way(4), -1);
        keeps(WayBounds::twoFree, y -> y.way(-2), -1);
    }

    private static void flowerTold() {
        of("Promise 13", "The k-th PERSON (from 0) of THE FLOWER's STEM (what 0), its RING (1); k -1: how many.");
        OddPartners x = house(7, 601, 6401, 4201, 2301, 3401);
        pairUp(x, 64, 23);
        due(x.flower(0, -1), 3);
        due(x.flower(0, 0), 0);
        due(x.flower(0, 1), 6);
        due(x.flower(0, 2), 4);
        due(x.flower(1, -1), 3);
        due(x.flower(1, 0), 4);
        due(x.flower(1, 1), 2);
        due(x.flower(1, 2), 3);
        keeps(Houses::much, y -> y.flower(0, -1), 3);
        keeps(Houses::much, y -> y.flower(1, 1), 3);
    }

    private static void noSuchPartOfTheFlower() {
        of("Promise 13", "NONE: what;");
        OddPartners none = house(3);
        OddPartners one = house(3, 101, 1201, 201);
        one.pair(1, 2);
        for (int what : new int[] {-1, 2, LEAST, GREATEST}) {
            for (int k = -2; k < 4; k++) {
                due(none.flower(what, k), -1);
                due(one.flower(what, k), -1);
            }
        }
        keeps(Houses::much, y -> y.flower(2, 0), -1);
    }

    private static void noFlower() {
        of("Promise 13", "-5: there is none (whatever k is);");
        OddPartners x = house(3, 101, 1201, 201);
        for (int k : new int[] {-1, 0, 1, 2, 7, -2, LEAST, GREATEST}) {
            due(x.flower(0, k), -5);
            due(x.flower(1, k), -5);
            due(new OddPartners().flower(0, k), -5);
            due(new OddPartners().flower(1, k), -5);
        }
    }

    private static void noSuchPlaceOfTheFlower() {
        of("Promise 13", "NONE: k.");
        OddPartners x = house(7, 101, 1201, 2301, 3401, 4501, 5601, 2601);
        pairUp(x, 12, 34, 56);
        due(x.flower(0, 2), 2);
        due(x.flower(0, 3), -1);
        due(x.flower(1, 3), 5);
        due(x.flower(1, 4), 6);
        due(x.flower(1, 5), -1);
        for (int what = 0; what < 2; what++) {
            due(x.flower(what, -2), -1);
            due(x.flower(what, 7), -1);
            due(x.flower(what, LEAST), -1);
            due(x.flower(what, GREATEST), -1);
            for (int k = what == 0 ? 3 : 5; k <= 60; k++) {
                due(x.flower(what, k), -1);
            }
        }
        keeps(Houses::much, y -> y.flower(0, 3), -1);
        keeps(Houses::much, y -> y.flower(1, -2), -1);
    }

    private static void shrunkTold() {
        of("Promise 14", "SHRUNK;");
        OddPartners x = house(6, 101, 1201, 201, 1301, 2401, 4501);
        x.pair(1, 2);
        due(x.shrunk(), 2);
        x.weigh(4, 5, 0);
        due(x.shrunk(), 1);
        due(x.told(8), 2);
        keeps(Houses::much, OddPartners::shrunk, 1);
    }

    private static void shrunkWithoutFlower() {
        of("Promise 14", "-5: there is no FLOWER.");
        due(new OddPartners().shrunk(), -5);
        OddPartners x = house(3, 101, 1201, 201);
        due(x.shrunk(), -5);
        x.pair(1, 2);
        due(x.shrunk(), 0);
        x.weigh(0, 1, 0);
        due(x.shrunk(), -5);
        keeps(y -> come(y, 4), OddPartners::shrunk, -5);
    }
}
