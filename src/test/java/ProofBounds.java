/** HALVES, ODD SETS, THE PROOF: promises 19 to 22. */
final class ProofBounds extends Bounds {
    @Override
    void run() {
        halvesFromNoughtToSixty();
        threeOddSets();
        bitsOfPeople();
        halvesOfOddSets();
        have();
        tight();
        firstFault();
        linkedLack();
        causeOfLack();
        oddSetLacks();
        causeOfOddSet();
        freeHas();
        causeOfFree();
        pairIsLoose();
        causeOfPair();
        sum();
        halvesAnswerWhatTheyWere();
        halvesOfNobody();
        halvesRefused();
        oddSetComes();
        noOddSetsThen();
        oddSetRefused();
        oddSetsAreFull();
        bearTold();
        proofTold();
        noCause();
        belowNought();
    }

    private static void proofIs(OddPartners x, int fault, int cause, int deeper) {
        due(x.proof(0), fault);
        due(x.proof(1), cause);
        due(x.proof(2), deeper);
    }

    private static void holds(OddPartners x) {
        proofIs(x, -5, -5, -5);
    }

    private static void halvesOf(OddPartners x, int... halves) {
        for (int p = 0; p < halves.length; p++) {
            x.halves(p, halves[p]);
        }
    }

    private static void halvesFromNoughtToSixty() {
        of("Terms", "HALVES of a PERSON: 0 .. 60 (0 at first).");
        OddPartners x = house(7);
        due(x.told(10), 0);
        for (int p = 0; p < 7; p++) {
            due(x.halves(p, 60), 0);
            due(x.halves(p, 61), -2);
            due(x.halves(p, 0), 60);
            due(x.halves(p, -1), -2);
            due(x.halves(p, 1), 0);
        }
        due(x.told(10), 7);
    }

    private static void threeOddSets() {
        of("Terms", "ODD SETS told by hand, 3 at most:");
        OddPartners x = house(3);
        due(x.count(0), 0);
        for (int k = 1; k <= 3; k++) {
            due(x.odd(7, 1), k);
            due(x.count(0), k);
        }
        due(x.odd(7, 1), -4);
        due(x.count(0), 3);
        due(x.told(10), 3);
    }

    private static void bitsOfPeople() {
        of("Terms", "BITS of PEOPLE that there are (of each PERSON p 2 to the p, together), an odd number of them, "
                + "3 at least,");
        for (int people = 0; people <= 7; people++) {
            for (int bits = 0; bits <= 256; bits++) {
                int many = Integer.bitCount(bits);
                boolean good = bits < 1 << people && (many == 3 || many == 5 || many == 7);
                due(house(people).odd(bits, 1), good ? 1 : -2);
            }
        }
        due(house(7).odd(1 << 31 | 3, 1), -2);
        due(house(7).odd(1 << 31 | 7, 1), -2);
        due(house(7).odd(-2, 1), -2);
        due(house(7).odd(GREATEST, 1), -2);
        due(house(7).odd(LEAST, 1), -2);
        // of PERSON p 2 to the p
        OddPartners x = house(5, 401, 2401, 201, 101, 3401);
        x.odd(1 + 4 + 16, 2);
        due(x.told(9), 3);
        x.halves(1, 2);
        due(x.told(9), 4);
    }

    private static void halvesOfOddSets() {
        of("Terms", "and HALVES (1 .. 40).");
        OddPartners x = house(3, 120);
        due(x.odd(7, 0), -2);
        due(x.odd(7, 41), -2);
        due(x.count(0), 0);
        due(x.odd(7, 1), 1);
        due(x.told(10), 1);
        due(x.odd(7, 40), 2);
        due(x.told(10), 41);
        due(x.odd(7, -1), -2);
        due(x.odd(7, LEAST), -2);
        due(x.odd(7, GREATEST), -2);
    }

    private static void have() {
        of("Terms", "Two LINKED ones HAVE: HALVES of both, and those of each ODD SET with both, together.");
        OddPartners x = house(5, 120);
        proofIs(x, 1, 1, 40);
        x.halves(0, 3);
        proofIs(x, 1, 1, 37);
        x.halves(1, 4);
        proofIs(x, 1, 1, 33);
        // of others
        x.halves(2, 9);
        proofIs(x, 1, 1, 33);
        x.odd(1 + 4 + 8, 10);
        proofIs(x, 1, 1, 33);
        x.odd(1 + 2 + 4, 10);
        proofIs(x, 1, 1, 23);
        x.odd(31, 12);
        proofIs(x, 1, 1, 11);
        x.odd(-1, 0);
        x.odd(7, 5);
        x.odd(7, 6);
        x.odd(7, 7);
        proofIs(x, 1, 1, 15);
        x.odd(-1, 0);
        x.odd(2 + 4 + 8, 10);
        proofIs(x, 1, 1, 33);
    }

    private static void tight() {
        of("Terms", "They are TIGHT, if they HAVE twice their WEIGHT.");
        OddPartners x = house(3, 103);
        halvesOf(x, 5, 0);
        due(x.told(9), 0);
        x.halves(1, 1);
        due(x.told(9), 1);
        x.halves(1, 2);
        due(x.told(9), 0);
        x.halves(0, 4);
        due(x.told(9), 1);
        // those who aren't LINKED HAVE nothing
        OddPartners none = house(7);
        due(none.told(9), 0);
        x.weigh(0, 1, 0);
        halvesOf(x, 0, 0);
        due(x.told(9), 0);
        OddPartners odd = house(3, 120);
        odd.odd(7, 40);
        due(odd.told(9), 1);
    }

    private static void firstFault() {
        of("Terms", "THE PROOF: its FAULT, the first of:");
        // all four at once, then by turns one less
        OddPartners x = house(7, 103, 5605);
        halvesOf(x, 0, 0, 0, 0, 9, 6, 6);
        x.odd(7, 4);
        x.pair(5, 6);
        proofIs(x, 1, 1, 2);
        x.halves(1, 2);
        proofIs(x, 2, 7, 0);
        x.pair(0, 1);
        proofIs(x, 3, 4, 9);
        x.halves(4, 0);
        proofIs(x, 4, 56, 2);
        x.halves(6, 4);
        holds(x);
        holds(new OddPartners());
        holds(house(7));
    }

    private static void linkedLack() {
        of("Terms", "1: two LINKED ones, the first (by the less PERSON, then the other one), HAVE less than twice "
                + "their WEIGHT");
        OddPartners x = house(7, 601, 1201, 501, 2301, 5601);
        due(x.proof(1), 5);
        x.weigh(0, 5, 0);
        due(x.proof(1), 6);
        x.weigh(6, 0, 0);
        due(x.proof(1), 12);
        x.weigh(1, 2, 0);
        due(x.proof(1), 23);
        x.weigh(2, 3, 0);
        due(x.proof(1), 56);
        due(x.proof(0), 1);
        // less by one, just twice, more by one
        OddPartners y = house(2, 120);
        halvesOf(y, 20, 19);
        proofIs(y, 1, 1, 1);
        y.halves(1, 20);
        y.pair(0, 1);
        holds(y);
        y.halves(1, 21);
        proofIs(y, 4, 1, 1);
        // those who aren't LINKED don't HAVE
        holds(house(2));
    }

    private static void causeOfLack() {
        of("Terms", "(CAUSE: 10 times the less PERSON and the other one; this has as CAUSE how much less);");
        OddPartners x = house(7, 6520);
        proofIs(x, 1, 56, 40);
        x.halves(5, 39);
        proofIs(x, 1, 56, 1);
        x.halves(5, 0);
        x.halves(6, 1);
        proofIs(x, 1, 56, 39);
        proofIs(house(2, 1001), 1, 1, 2);
        proofIs(house(7, 3007), 1, 3, 14);
        proofIs(house(7, 4107), 1, 14, 14);
    }

    private static void oddSetLacks() {
        of("Terms", "2: an ODD SET, the first, in which there are less PAIRS than half of its PEOPLE but one");
        OddPartners x = house(7, 101, 2301, 4501);
        halvesOf(x, 1, 1, 1, 1, 1, 1, 0);
        pairUp(x, 1, 23, 45);
        x.odd(127, 1);
        due(x.proof(0), 4);
        // three of five have one PAIR of three: 0, 1 with 2; not 1, 2, 3
        x.odd(7, 1);
        due(x.proof(0), 4);
        x.odd(14, 1);
        due(x.proof(0), 4);
        x.alone(2);
        proofIs(x, 2, 127, 2);
        x.odd(-1, 0);
        x.odd(7, 1);
        due(x.proof(0), 3);
        x.odd(14, 1);
        proofIs(x, 2, 14, 0);
        x.odd(56, 1);
        due(x.proof(1), 14);
        x.odd(-1, 0);
        x.odd(56, 1);
        due(x.proof(0), 3);
        x.odd(14, 1);
        x.odd(28, 1);
        proofIs(x, 2, 14, 0);
        x.odd(-1, 0);
        x.odd(28, 1);
        x.odd(14, 1);
        proofIs(x, 2, 28, 0);
    }

    private static void causeOfOddSet() {
        of("Terms", "(CAUSE: its BITS; this: how many PAIRS there are in it);");
        OddPartners x = house(7, 101, 2301, 4501);
        x.odd(127, 2);
        for (int p = 0; p < 7; p++) {
            x.halves(p, 0);
        }
        proofIs(x, 2, 127, 0);
        x.pair(0, 1);
        proofIs(x, 2, 127, 1);
        x.pair(4, 5);
        proofIs(x, 2, 127, 2);
        x.pair(2, 3);
        holds(x);
        // a PAIR with but one in it isn't in it
        OddPartners y = house(7, 201, 1601);
        halvesOf(y, 1, 2, 1, 0, 0, 0, 0);
        y.odd(64 + 32 + 2, 1);
        pairUp(y, 2);
        proofIs(y, 2, 98, 0);
        y.pair(6, 1);
        due(y.proof(0), 4);
        y.odd(-1, 0);
        y.odd(1 + 8 + 16, 1);
        proofIs(y, 2, 25, 0);
    }

    private static void freeHas() {
        of("Terms", "3: a FREE PERSON, the first, has HALVES above 0");
        OddPartners x = house(7, 101);
        halvesOf(x, 1, 1);
        x.pair(0, 1);
        holds(x);
        x.halves(6, 1);
        proofIs(x, 3, 6, 1);
        x.halves(5, 60);
        proofIs(x, 3, 5, 60);
        x.halves(2, 2);
        proofIs(x, 3, 2, 2);
        x.halves(2, 0);
        x.halves(5, 0);
        x.halves(6, 0);
        holds(x);
        x.alone(1);
        proofIs(x, 3, 0, 1);
        x.weigh(0, 1, 0);
        x.halves(0, 0);
        proofIs(x, 3, 1, 1);
        x.halves(1, 0);
        holds(x);
    }

    private static void causeOfFree() {
        of("Terms", "(CAUSE: that one; this: these HALVES);");
        OddPartners x = house(7);
        x.halves(6, 60);
        proofIs(x, 3, 6, 60);
        x.halves(0, 1);
        proofIs(x, 3, 0, 1);
        OddPartners one = house(1);
        one.halves(0, 7);
        proofIs(one, 3, 0, 7);
    }

    private static void pairIsLoose() {
        of("Terms", "4: a PAIR, the first (by its less PERSON), isn't TIGHT");
        OddPartners x = house(7, 601, 1501, 2301);
        halvesOf(x, 2, 2, 2, 2, 0, 2, 2);
        pairUp(x, 32, 51, 60);
        proofIs(x, 4, 6, 2);
        x.halves(6, 0);
        proofIs(x, 4, 15, 2);
        x.halves(5, 0);
        proofIs(x, 4, 23, 2);
        x.halves(3, 1);
        proofIs(x, 4, 23, 1);
        x.halves(3, 0);
        holds(x);
        // LINKED ones that are no PAIR may HAVE more
        OddPartners y = house(4, 101, 1201, 2301);
        halvesOf(y, 1, 1, 1, 1);
        pairUp(y, 1, 23);
        holds(y);
        y.weigh(1, 2, 0);
        holds(y);
        OddPartners z = house(4, 101, 1201, 2301);
        halvesOf(z, 0, 2, 2, 0);
        pairUp(z, 1, 23);
        holds(z);
    }

    private static void causeOfPair() {
        of("Terms", "(CAUSE: 10 times the less PERSON and the other one; this: how much more they HAVE).");
        OddPartners x = house(7, 6501);
        x.pair(6, 5);
        halvesOf(x, 0, 0, 0, 0, 0, 60, 60);
        proofIs(x, 4, 56, 118);
        halvesOf(x, 0, 0, 0, 0, 0, 3, 0);
        proofIs(x, 4, 56, 1);
        halvesOf(x, 0, 0, 0, 0, 0, 1, 1);
        x.odd(64 + 32 + 16, 40);
        proofIs(x, 4, 56, 40);
        OddPartners first = house(3, 101);
        first.pair(1, 0);
        first.halves(1, 5);
        proofIs(first, 4, 1, 3);
    }

    private static void sum() {
        of("Terms", "SUM: all HALVES of PEOPLE, and of each ODD SET its HALVES as often as half of its PEOPLE but one, "
                + "together.");
        OddPartners x = house(7);
        due(x.told(10), 0);
        halvesOf(x, 1, 2, 3, 4, 5, 6, 60);
        due(x.told(10), 81);
        x.odd(7, 10);
        due(x.told(10), 91);
        x.odd(31, 10);
        due(x.told(10), 111);
        x.odd(127, 40);
        due(x.told(10), 231);
        x.odd(-1, 0);
        due(x.told(10), 81);
        x.odd(112, 1);
        x.odd(112, 1);
        due(x.told(10), 83);
        due(new OddPartners().told(10), 0);
    }

    private static void halvesAnswerWhatTheyWere() {
        of("Promise 19", "HALVES of a PERSON become h: what they were.");
        OddPartners x = house(7);
        due(x.halves(6, 5), 0);
        due(x.halves(6, 60), 5);
        due(x.halves(6, 60), 60);
        due(x.halves(0, 1), 0);
        due(x.halves(6, 0), 60);
        due(x.halves(0, 0), 1);
        due(x.halves(5, 0), 0);
    }

    private static void halvesOfNobody() {
        of("Promise 19", "NONE;");
        keeps(Houses::much, x -> x.halves(5, 3), -1);
        keeps(Houses::much, x -> x.halves(-1, 3), -1);
        due(new OddPartners().halves(0, 0), -1);
        due(house(7).halves(7, 0), -1);
        due(house(7).halves(LEAST, 0), -1);
        due(house(7).halves(GREATEST, 0), -1);
        // ahead of BAD
        due(house(7).halves(7, 61), -1);
        due(house(7).halves(-1, -1), -1);
    }

    private static void halvesRefused() {
        of("Promise 19", "BAD.");
        keeps(Houses::much, x -> x.halves(4, 61), -2);
        keeps(Houses::much, x -> x.halves(4, -1), -2);
        due(house(1).halves(0, LEAST), -2);
        due(house(1).halves(0, GREATEST), -2);
    }

    private static void oddSetComes() {
        of("Promise 20", "An ODD SET comes: how many there are");
        OddPartners x = house(7);
        due(x.odd(127, 40), 1);
        due(x.odd(7, 1), 2);
        due(x.odd(112, 9), 3);
        due(x.told(10), 120 + 1 + 9);
        due(x.count(0), 3);
    }

    private static void noOddSetsThen() {
        of("Promise 20", "(bits -1: none then, 0, whatever the rest is).");
        for (int h : new int[] {0, 1, 40, 41, -1, LEAST, GREATEST}) {
            OddPartners x = house(5);
            x.odd(31, 3);
            x.odd(7, 4);
            due(x.odd(-1, h), 0);
            due(x.count(0), 0);
            due(x.told(10), 0);
            due(x.odd(7, 4), 1);
            due(new OddPartners().odd(-1, h), 0);
        }
        OddPartners all = new OddPartners();
        full(all);
        due(all.odd(-1, 41), 0);
        due(all.odd(7, 40), 1);
    }

    private static void oddSetRefused() {
        of("Promise 20", "BAD: bits, h;");
        keeps(Houses::much, x -> x.odd(3, 1), -2);
        keeps(Houses::much, x -> x.odd(15, 1), -2);
        keeps(Houses::much, x -> x.odd(32 + 3, 1), -2);
        keeps(Houses::much, x -> x.odd(0, 1), -2);
        keeps(Houses::much, x -> x.odd(-2, 1), -2);
        keeps(Houses::much, x -> x.odd(7, 0), -2);
        keeps(Houses::much, x -> x.odd(7, 41), -2);
        // ahead of FULL
        keeps(Houses::full, x -> x.odd(3, 1), -2);
        keeps(Houses::full, x -> x.odd(128, 1), -2);
        keeps(Houses::full, x -> x.odd(7, 0), -2);
        keeps(Houses::full, x -> x.odd(7, 41), -2);
    }

    private static void oddSetsAreFull() {
        of("Promise 20", "FULL: 3.");
        keeps(Houses::full, x -> x.odd(7, 1), -4);
        keeps(Houses::full, x -> x.odd(127, 40), -4);
        OddPartners x = new OddPartners();
        much(x);
        due(x.odd(31, 1), 3);
        due(x.odd(31, 1), -4);
    }

    private static void bearTold() {
        of("Promise 21", "HALVES of each PERSON become the greatest WEIGHT that one has with another one (0: none), "
                + "and there are no ODD SETS: SUM then.");
        OddPartners x = new OddPartners();
        much(x);
        due(x.bear(), 4 + 5 + 7 + 6 + 7);
        due(x.count(0), 0);
        due(x.told(10), 29);
        int[] halves = {4, 5, 7, 6, 7};
        for (int p = 0; p < 5; p++) {
            due(x.halves(p, 0), halves[p]);
        }
        OddPartners y = house(7, 620, 1519);
        halvesOf(y, 60, 60, 60, 60, 60, 60, 60);
        due(y.bear(), 78);
        int[] ends = {20, 19, 0, 0, 0, 19, 20};
        for (int p = 0; p < 7; p++) {
            due(y.halves(p, 1), ends[p]);
        }
        due(new OddPartners().bear(), 0);
        OddPartners none = house(3);
        none.odd(7, 9);
        due(none.bear(), 0);
        due(none.count(0), 0);
        due(none.proof(0), -5);
        due(house(4, 103, 1220, 2301).bear(), 3 + 20 + 20 + 1);
    }

    private static void proofTold() {
        of("Promise 22", "Of THE PROOF k 0 its FAULT, 1 the CAUSE, 2 the CAUSE of that;");
        OddPartners x = new OddPartners();
        much(x);
        proofIs(x, 1, 12, 1);
        keeps(Houses::much, y -> y.proof(0), 1);
        keeps(Houses::much, y -> y.proof(1), 12);
        keeps(Houses::much, y -> y.proof(2), 1);
    }

    private static void noCause() {
        of("Promise 22", "-5: there is none such (without a FAULT for 0, too).");
        keeps(Houses::much, x -> x.proof(3), -5);
        OddPartners fault = house(2, 101);
        OddPartners none = house(2);
        for (int k : new int[] {3, 4, 9, GREATEST}) {
            due(fault.proof(k), -5);
            due(none.proof(k), -5);
            due(new OddPartners().proof(k), -5);
        }
        for (int k = 0; k <= 2; k++) {
            due(none.proof(k), -5);
            due(new OddPartners().proof(k), -5);
        }
        due(fault.proof(2), 2);
    }

    private static void belowNought() {
        of("Promise 22", "NONE: k is below 0.");
        keeps(Houses::much, x -> x.proof(-1), -1);
        for (int k : new int[] {-1, -2, -5, LEAST}) {
            due(house(2, 101).proof(k), -1);
            due(house(2).proof(k), -1);
            due(new OddPartners().proof(k), -1);
        }
    }
}
