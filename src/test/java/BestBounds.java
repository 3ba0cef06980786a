/** BEST by both rules, what is told of all, who is left over, losses: promises 7 and 15 to 18. */
final class BestBounds extends Bounds {
    @Override
    void run() {
        heavy();
        most();
        alikeByBoth();
        over();
        edge();
        rest();
        barrier();
        gain();
        part();
        loss();
        taken();
        takeRefused();
        bestTold();
        noSuchRule();
        bestOfNobody();
        numbersTold();
        nothingTold();
        partsTold();
        noSuchParts();
        lossTold();
        lossOfNobody();
    }

    private static void bestIs(OddPartners x, int rule, int... partners) {
        for (int p = 0; p < partners.length; p++) {
            due(x.best(rule, p), partners[p]);
        }
    }

    private static void heavy() {
        of("Terms", "BEST by a RULE: of all ways to have PAIRS 0 HEAVY: that with the greatest WEIGHT together;");
        // one PAIR of 7 against two of 3, of 3 and 4, of 4
        OddPartners x = house(4, 103, 1207, 2303);
        bestIs(x, 0, -5, 2, 1, -5);
        due(x.told(5), 7);
        due(x.told(6), 1);
        x.weigh(2, 3, 5);
        bestIs(x, 0, 1, 0, 3, 2);
        due(x.told(5), 8);
        due(x.told(6), 2);
        // whatever PAIRS there are
        x.pair(1, 2);
        due(x.told(5), 8);
        OddPartners six = house(7, 120, 2320, 4520, 1219, 3419, 5619);
        due(six.told(5), 60);
        bestIs(six, 0, 1, 0, 3, 2, 5, 4, -5);
        due(house(7).told(5), 0);
        bestIs(house(2), 0, -5, -5);
        bestIs(house(2, 101), 0, 1, 0);
    }

    private static void most() {
        of("Terms", "1 MOST: that with most PAIRS, of several that with the greatest WEIGHT together.");
        OddPartners x = house(4, 101, 1220, 2301);
        bestIs(x, 1, 1, 0, 3, 2);
        due(x.told(7), 2);
        due(x.told(8), 2);
        due(x.told(5), 20);
        // two PAIRS in three ways: 2, 5, 4
        OddPartners all = house(4, 101, 2301, 202, 1303, 301, 1203);
        bestIs(all, 1, 2, 3, 0, 1);
        due(all.told(7), 5);
        // three PAIRS of 1 each against two of 20 each
        OddPartners six = house(6, 101, 1220, 2301, 3420, 4501);
        due(six.told(8), 3);
        due(six.told(7), 3);
        due(six.told(6), 2);
        due(six.told(5), 40);
        // one PAIR alone: the heaviest
        OddPartners star = house(4, 103, 205, 304);
        bestIs(star, 1, 2, -5, 0, -5);
        due(house(5).told(8), 0);
    }

    private static void alikeByBoth() {
        of("Terms", "Of several by both that where PERSON 0 has the least partner (nobody is more than all), "
                + "of several of these PERSON 1, and so on.");
        for (int rule = 0; rule < 2; rule++) {
            bestIs(house(4, 103, 203, 303), rule, 1, 0, -5, -5);
            // to have the greatest partner is better than to have none
            bestIs(house(7, 603, 1603), rule, 6, -5, -5, -5, -5, -5, 0);
            bestIs(house(7, 603, 5603), rule, 6, -5, -5, -5, -5, -5, 0);
            // 0 has nobody at all: PERSON 1, 2, 3, 4, 5
            bestIs(house(5, 1303, 1403), rule, -5, 3, -5, 1, -5);
            bestIs(house(5, 1301, 2401, 1401, 2301), rule, -5, 3, 4, 1, 2);
            bestIs(house(6, 1502, 2502, 3402), rule, -5, 5, -5, 4, 3, 1);
            bestIs(house(6, 101, 2401, 3501, 2501, 3401), rule, 1, 0, 4, 5, 2, 3);
            bestIs(house(7, 2602, 3602), rule, -5, -5, 6, -5, -5, -5, 2);
            bestIs(house(7, 3502, 3602), rule, -5, -5, -5, 5, -5, 3, -5);
            bestIs(house(7, 4602, 5602), rule, -5, -5, -5, -5, 6, -5, 4);
            bestIs(house(7, 101, 2301, 4501, 4601, 5601), rule, 1, 0, 3, 2, 5, 4, -5);
            // the lighter PAIR is of the choice too
            bestIs(house(4, 202, 1302, 103, 2301), rule, 1, 0, 3, 2);
        }
        // by HEAVY the same WEIGHT with one PAIR or two: PERSON 0 tells
        bestIs(house(4, 103, 1206, 2303), 0, 1, 0, 3, 2);
        bestIs(house(4, 1003, 206, 2303), 0, 1, 0, 3, 2);
        bestIs(house(5, 1203, 1306, 3403), 0, -5, 2, 1, 4, 3);
        // nobody for 0 is never better, nobody for 1 is, if 0 has the lesser one
        bestIs(house(3, 104, 204, 1204), 0, 1, 0, -5);
        bestIs(house(4, 206, 303, 1203), 0, 2, -5, 0, -5);
    }

    private static void over() {
        of("Terms", "OVER: who is FREE in some way to have as many PAIRS as can be.");
        due(new OddPartners().parts(0), 0);
        due(house(1).parts(0), 1);
        due(house(7).parts(0), 127);
        due(house(2, 101).parts(0), 0);
        due(house(3, 101, 1201).parts(0), 5);
        due(house(3, 101, 1201, 201).parts(0), 7);
        // as many as can be, not as heavy: 1, 2 together leave two
        due(house(4, 101, 1220, 2301).parts(0), 0);
        due(house(5, 101, 1220, 2301, 3420).parts(0), 1 + 4 + 16);
        // whatever PAIRS there are
        OddPartners x = house(3, 101, 1201);
        x.pair(0, 1);
        due(x.parts(0), 5);
        due(house(7, 601).parts(0), 62);
        // asked again, when some are OVER no more
        x.weigh(0, 2, 1);
        due(x.parts(0), 7);
        x.person();
        x.weigh(2, 3, 1);
        due(x.parts(0), 0);
    }

    private static void edge() {
        of("Terms", "EDGE: who isn't OVER and is LINKED to one who is.");
        due(new OddPartners().parts(1), 0);
        due(house(3, 101, 1201).parts(1), 2);
        due(house(3, 101, 1201, 201).parts(1), 0);
        due(house(7, 601).parts(1), 0);
        // 0 and 2 are OVER; 3 and 4 are neither, nor LINKED to them
        due(house(5, 101, 1201, 3401).parts(1), 2);
        due(house(5, 101, 1201, 3401, 1301).parts(1), 2);
        due(house(7, 601, 6101).parts(1), 64);
        due(house(5, 101, 1201, 2301, 3401).parts(1), 2 + 8);
        // each one, and none when asked again
        for (int p = 0; p < 7; p++) {
            OddPartners x = house(7);
            for (int q = 0; q < 7; q++) {
                x.weigh(p, q, 1);
            }
            due(x.parts(1), 1 << p);
            x.weigh((p + 1) % 7, (p + 2) % 7, 1);
            x.weigh((p + 3) % 7, (p + 4) % 7, 1);
            x.weigh((p + 5) % 7, (p + 6) % 7, 1);
            due(x.parts(1), 0);
            due(x.parts(0), 127);
        }
    }

    private static void rest() {
        of("Terms", "REST: all others.");
        due(new OddPartners().parts(2), 0);
        due(house(2, 101).parts(2), 3);
        due(house(2).parts(2), 0);
        due(house(5, 101, 1201, 3401, 1301).parts(2), 8 + 16);
        due(house(7, 601).parts(2), 65);
        due(house(6, 101, 2301, 4501).parts(2), 63);
        due(house(7, 101, 2301, 4501).parts(2), 63);
        due(house(7, 101, 2301, 4501).parts(0), 64);
    }

    private static void barrier() {
        of("Terms", "BARRIER: of sets of PEOPLE that with the greatest GAIN, of several that with fewest PEOPLE, "
                + "of several of these that of least BITS;");
        due(new OddPartners().parts(3), 0);
        due(house(7).parts(3), 0);
        // a star's middle
        due(house(4, 301, 3101, 2301).parts(3), 8);
        // alike without anybody and with one: nobody
        due(house(2, 101).parts(3), 0);
        due(house(3, 101, 1201, 201).parts(3), 0);
        due(house(3, 101, 1201).parts(3), 0);
        due(house(7, 601).parts(3), 0);
        // of two with the same GAIN and one PERSON each the lesser one
        OddPartners two = house(6, 301, 1301, 3401, 2401, 4501);
        due(two.parts(3), 8);
        due(two.parts(4), 2);
        // of two PEOPLE: 2, 3 and not 0 .. , nor all four
        OddPartners stars = house(7, 201, 1201, 3401, 3501, 3601);
        due(stars.parts(3), 8);
        due(stars.parts(4), 3);
        OddPartners both = house(7, 201, 1201, 2301, 3401, 3501, 3601, 2401);
        due(both.parts(3), 12);
        due(both.parts(4), 3);
        // whether LINKED counts, not the WEIGHT
        due(house(4, 320, 3101, 2320).parts(3), 8);
        // each one, and nobody when asked again
        for (int p = 0; p < 7; p++) {
            OddPartners x = house(7);
            for (int q = 0; q < 7; q++) {
                x.weigh(p, q, 1);
            }
            due(x.parts(3), 1 << p);
            x.weigh(p, (p + 1) % 7, 0);
            x.weigh(p, (p + 2) % 7, 0);
            x.weigh(p, (p + 3) % 7, 0);
            due(x.parts(3), 1 << p);
            x.weigh(p, (p + 4) % 7, 0);
            due(x.parts(3), 0);
        }
        // both of the last two
        due(house(7, 501, 601, 1501, 1601, 2501, 2601, 3501, 3601, 4501, 4601).parts(3), 96);
    }

    private static void gain() {
        of("Terms", "GAIN: in how many odd PARTS all others fall, less how many PEOPLE it has.");
        due(new OddPartners().parts(4), 0);
        due(house(1).parts(4), 1);
        due(house(7).parts(4), 7);
        due(house(2, 101).parts(4), 0);
        due(house(3, 101, 1201, 201).parts(4), 1);
        due(house(4, 301, 3101, 2301).parts(4), 2);
        due(house(7, 601, 6101, 6201, 6301, 6401, 6501).parts(4), 5);
        due(house(7, 501, 601, 1501, 1601, 2501, 2601, 3501, 3601, 4501, 4601).parts(4), 3);
        // even PARTS are none of them
        due(house(7, 101, 2301, 4501).parts(4), 1);
        due(house(6, 101, 2301, 4501).parts(4), 0);
        due(house(7, 101, 1201, 3401, 4501).parts(4), 3);
    }

    private static void part() {
        of("Terms", "(PART: who is LINKED, or by others of the PART, and nobody else.)");
        // a PART of seven, LINKED one by one in no order: nobody is left but one
        due(house(7, 601, 6101, 1501, 5201, 2401, 4301).parts(4), 1);
        due(house(7, 301, 3601, 6101, 1401, 4201, 2501).parts(4), 1);
        due(house(6, 501, 5101, 1401, 4201, 2301).parts(4), 0);
        // three and three, then all together
        OddPartners x = house(6, 401, 4201, 1501, 5301);
        due(x.parts(4), 2);
        x.weigh(2, 3, 1);
        due(x.parts(4), 0);
        // by 6 alone they hang together
        due(house(7, 601, 1601, 101, 2601, 2301, 3601, 4601, 4501, 5601).parts(4), 1);
        due(house(7, 601, 1601, 101, 2601, 2301, 3601, 4601, 4501, 5601).parts(3), 0);
    }

    private static void loss() {
        of("Terms", "LOSS of a PERSON: WEIGHT of BEST by HEAVY, less that without this one.");
        OddPartners x = house(4, 103, 1207, 2303);
        due(x.loss(0), 0);
        due(x.loss(1), 4);
        due(x.loss(2), 4);
        due(x.loss(3), 0);
        due(house(3, 105, 1205).loss(0), 0);
        due(house(3, 105, 1205).loss(1), 5);
        due(house(2, 120).loss(1), 20);
        due(house(1).loss(0), 0);
        // whatever PAIRS there are
        x.pair(0, 1);
        due(x.loss(2), 4);
        due(house(7, 120, 2320, 4520, 5619).loss(6), 0);
        due(house(7, 120, 2320, 4520, 5619).loss(4), 1);
        due(house(7, 120, 2320, 4520, 5619).loss(5), 20);
    }

    private static void taken() {
        of("Promise 7", "PAIRS become BEST by a RULE: how many there are.");
        OddPartners x = house(5, 103, 1207, 2303);
        due(x.take(0), 1);
        due(x.partner(1), 2);
        due(x.told(2), 1);
        due(x.take(1), 2);
        due(x.partner(1), 0);
        due(x.partner(3), 2);
        due(x.partner(4), -5);
        due(x.take(0), 1);
        due(x.partner(0), -5);
        due(x.partner(3), -5);
        // none of the PAIRS that were stay
        OddPartners y = house(4, 301, 102, 2302);
        y.pair(0, 3);
        due(y.take(0), 2);
        due(y.partner(0), 1);
        due(y.partner(3), 2);
        due(new OddPartners().take(0), 0);
        due(new OddPartners().take(1), 0);
        due(house(7).take(1), 0);
        due(house(7, 101, 2301, 4501, 5601).take(0), 3);
    }

    private static void takeRefused() {
        of("Promise 7", "BAD.");
        keeps(Houses::much, x -> x.take(2), -2);
        keeps(Houses::much, x -> x.take(-1), -2);
        keeps(Houses::much, x -> x.take(LEAST), -2);
        keeps(Houses::much, x -> x.take(GREATEST), -2);
        due(new OddPartners().take(2), -2);
    }

    private static void bestTold() {
        of("Promise 15", "The partner of a PERSON by BEST of a RULE; -5: none.");
        OddPartners x = house(7, 603, 6507, 5403);
        bestIs(x, 0, -5, -5, -5, -5, -5, 6, 5);
        bestIs(x, 1, 6, -5, -5, -5, 5, 4, 0);
        due(x.partner(5), -5);
        x.pair(0, 6);
        due(x.best(0, 0), -5);
        due(x.best(0, 6), 5);
        due(x.partner(0), 6);
        keeps(Houses::much, y -> y.best(0, 1), 0);
        keeps(Houses::much, y -> y.best(1, 3), -5);
    }

    private static void noSuchRule() {
        of("Promise 15", "BAD: rule;");
        keeps(Houses::much, x -> x.best(2, 0), -2);
        keeps(Houses::much, x -> x.best(-1, 0), -2);
        due(house(2).best(LEAST, 0), -2);
        due(house(2).best(GREATEST, 0), -2);
        // ahead of NONE
        due(new OddPartners().best(2, 0), -2);
        due(house(2).best(2, 2), -2);
        due(house(2).best(-1, -1), -2);
    }

    private static void bestOfNobody() {
        of("Promise 15", "NONE: person.");
        keeps(Houses::much, x -> x.best(0, 5), -1);
        keeps(Houses::much, x -> x.best(1, -1), -1);
        due(new OddPartners().best(0, 0), -1);
        due(house(7).best(1, 6), -5);
        due(house(7).best(1, 7), -1);
        due(house(7).best(0, LEAST), -1);
        due(house(7).best(0, GREATEST), -1);
    }

    private static void toldAre(OddPartners x, int... all) {
        for (int k = 0; k < all.length; k++) {
            due(x.told(k), all[k]);
        }
    }

    private static void numbersTold() {
        of("Promise 16", "What 0 PEOPLE, 1 LINKED twos, 2 PAIRS, 3 their WEIGHT together, 4 FREE ones, "
                + "5 WEIGHT by HEAVY, 6 PAIRS by it, 7 WEIGHT by MOST, 8 PAIRS by it, 9 TIGHT ones, 10 SUM.");
        toldAre(new OddPartners(), 0, 0, 0, 0, 0, 0, 0, 0, 0, 0, 0);
        toldAre(house(1), 1, 0, 0, 0, 1, 0, 0, 0, 0, 0, 0);
        OddPartners x = new OddPartners();
        much(x);
        toldAre(x, 5, 5, 2, 8, 1, 11, 2, 11, 2, 1, 3 + 7 + 1 + 5 + 2);
        OddPartners top = house(7);
        for (int p = 0; p < 7; p++) {
            top.halves(p, 60);
            for (int q = p + 1; q < 7; q++) {
                top.weigh(p, q, 20);
            }
        }
        top.odd(127, 40);
        top.odd(127, 40);
        top.odd(127, 40);
        toldAre(top, 7, 21, 0, 0, 7, 60, 3, 60, 3, 0, 780);
        pairUp(top, 6, 15, 24);
        toldAre(top, 7, 21, 3, 60, 1, 60, 3, 60, 3, 0, 780);
        for (int p = 0; p < 7; p++) {
            top.halves(p, 20);
        }
        top.odd(-1, 0);
        toldAre(top, 7, 21, 3, 60, 1, 60, 3, 60, 3, 21, 140);
        // HEAVY and MOST are unlike
        OddPartners path = house(4, 101, 1220, 2302);
        path.pair(2, 3);
        toldAre(path, 4, 3, 1, 2, 2, 20, 1, 3, 2, 0, 0);
        keeps(Houses::much, y -> y.told(0), 5);
        keeps(Houses::much, y -> y.told(5), 11);
        keeps(Houses::much, y -> y.told(8), 2);
        keeps(Houses::much, y -> y.told(10), 18);
    }

    private static void nothingTold() {
        of("Promise 16", "NONE.");
        keeps(Houses::much, x -> x.told(11), -1);
        keeps(Houses::much, x -> x.told(-1), -1);
        due(new OddPartners().told(11), -1);
        due(new OddPartners().told(-1), -1);
        due(house(7).told(LEAST), -1);
        due(house(7).told(GREATEST), -1);
    }

    private static void partsTold() {
        of("Promise 17", "BITS of what 0 OVER, 1 EDGE, 2 REST, 3 BARRIER; 4: its GAIN.");
        OddPartners x = house(7, 301, 3101, 2301, 4501);
        int[] all = {1 + 2 + 4 + 64, 8, 16 + 32, 8, 3};
        for (int k = 0; k < all.length; k++) {
            due(x.parts(k), all[k]);
        }
        int[] none = {0, 0, 0, 0, 0};
        int[] alone = {127, 0, 0, 0, 7};
        for (int k = 0; k < 5; k++) {
            due(new OddPartners().parts(k), none[k]);
            due(house(7).parts(k), alone[k]);
        }
        keeps(Houses::much, y -> y.parts(0), 31 & ~2);
        keeps(Houses::much, y -> y.parts(3), 0);
        keeps(Houses::much, y -> y.parts(4), 1);
    }

    private static void noSuchParts() {
        of("Promise 17", "NONE.");
        keeps(Houses::much, x -> x.parts(5), -1);
        keeps(Houses::much, x -> x.parts(-1), -1);
        due(new OddPartners().parts(5), -1);
        due(house(7).parts(LEAST), -1);
        due(house(7).parts(GREATEST), -1);
    }

    private static void lossTold() {
        of("Promise 18", "LOSS.");
        OddPartners x = house(7, 605, 6109);
        int[] all = {0, 4, 0, 0, 0, 0, 9};
        for (int p = 0; p < 7; p++) {
            due(x.loss(p), all[p]);
        }
        keeps(Houses::much, y -> y.loss(2), 4);
    }

    private static void lossOfNobody() {
        of("Promise 18", "NONE.");
        keeps(Houses::much, x -> x.loss(5), -1);
        keeps(Houses::much, x -> x.loss(-1), -1);
        due(new OddPartners().loss(0), -1);
        due(house(7).loss(7), -1);
        due(house(7).loss(LEAST), -1);
        due(house(7).loss(GREATEST), -1);
    }
}
