/** PEOPLE, WEIGHTS, PAIRS made by hand: promises 1 to 6 and 9. */
final class PeopleBounds extends Bounds {
    @Override
    void run() {
        peopleAsTheyCome();
        weightsFromNoughtToTwenty();
        linkedAboveNought();
        nobodyInTwoPairs();
        whoIsFree();
        pairWithoutWeight();
        noPeopleAtFirst();
        personAnswersTheNumber();
        sevenPeopleAreAll();
        weighAnswersWhatItWas();
        weighRefused();
        weightAsked();
        weightOfNoTwo();
        pairAnswersHowMany();
        pairOfNoTwo();
        pairRefused();
        aloneAnswersThePartner();
        aloneIsNobody();
        partnerAsked();
        partnerOfNobody();
    }

    private static void peopleAsTheyCome() {
        of("Terms", "PEOPLE 0 .. 6, as they come.");
        OddPartners x = new OddPartners();
        for (int p = 0; p <= 6; p++) {
            due(x.partner(p), -1);
            due(x.person(), p);
            due(x.partner(p), -5);
            due(x.partner(p + 1), -1);
        }
        due(x.partner(-1), -1);
        due(x.partner(7), -1);
    }

    private static void weightsFromNoughtToTwenty() {
        of("Terms", "Each two have a WEIGHT (0 .. 20; 0 at first);");
        OddPartners x = house(7);
        for (int i = 0; i < 7; i++) {
            for (int j = 0; j < 7; j++) {
                due(x.of(i, j), i == j ? -1 : 0);
            }
        }
        due(x.weigh(5, 6, 20), 0);
        due(x.of(5, 6), 20);
        due(x.of(6, 5), 20);
        due(x.weigh(5, 6, 21), -2);
        due(x.of(5, 6), 20);
        due(x.weigh(5, 6, 0), 20);
        due(x.of(6, 5), 0);
        due(x.weigh(5, 6, -1), -2);
        due(x.of(5, 6), 0);
        OddPartners late = house(1);
        late.person();
        due(late.of(0, 1), 0);
    }

    private static void linkedAboveNought() {
        of("Terms", "they are LINKED, if it is above 0.");
        OddPartners x = house(2);
        due(x.told(1), 0);
        due(x.pair(0, 1), -3);
        x.weigh(0, 1, 1);
        due(x.told(1), 1);
        due(x.pair(0, 1), 1);
    }

    private static void nobodyInTwoPairs() {
        of("Terms", "PAIRS: two PEOPLE each, LINKED; nobody is in two.");
        OddPartners x = house(4, 101, 201, 1201, 1301, 2301);
        due(x.pair(0, 1), 1);
        due(x.partner(0), 1);
        due(x.partner(1), 0);
        due(x.pair(0, 2), -3);
        due(x.pair(2, 0), -3);
        due(x.pair(1, 3), -3);
        due(x.pair(1, 0), -3);
        due(x.pair(0, 3), -3);
        due(x.told(2), 1);
        due(x.pair(2, 3), 2);
    }

    private static void whoIsFree() {
        of("Terms", "FREE: who is in none.");
        OddPartners x = house(3, 101, 1201);
        due(x.told(4), 3);
        x.pair(1, 2);
        due(x.told(4), 1);
        due(x.pair(0, 1), -3);
        x.alone(2);
        due(x.told(4), 3);
        due(x.pair(0, 1), 1);
    }

    private static void pairWithoutWeight() {
        of("Terms", "A PAIR whose WEIGHT becomes 0 is no PAIR any more.");
        OddPartners x = house(6, 109, 2309, 201, 301, 4501);
        pairUp(x, 1, 23, 45);
        x.weigh(1, 0, 1);
        due(x.partner(0), 1);
        // of other twos than the PAIRS
        x.weigh(0, 2, 0);
        x.weigh(0, 3, 0);
        due(x.told(2), 3);
        x.weigh(1, 0, 0);
        due(x.partner(0), -5);
        due(x.partner(1), -5);
        due(x.partner(2), 3);
        due(x.told(2), 2);
        x.weigh(0, 1, 9);
        due(x.partner(0), -5);
        due(x.told(2), 2);
        x.weigh(2, 3, 0);
        due(x.partner(3), -5);
        due(x.told(2), 1);
        due(read(x, "w450"), 1);
        due(x.partner(4), -5);
        due(x.told(2), 0);
    }

    private static void noPeopleAtFirst() {
        of("Promise 1", "No PEOPLE.");
        OddPartners x = new OddPartners();
        due(x.told(0), 0);
        due(x.partner(0), -1);
        due(x.image(), 0);
        x.person();
        due(new OddPartners().told(0), 0);
        due(x.told(0), 1);
    }

    private static void personAnswersTheNumber() {
        of("Promise 2", "A PERSON comes: the number.");
        OddPartners x = new OddPartners();
        for (int p = 0; p < 7; p++) {
            due(x.told(0), p);
            due(x.person(), p);
        }
        due(x.told(0), 7);
    }

    private static void sevenPeopleAreAll() {
        of("Promise 2", "FULL: 7.");
        keeps(x -> come(x, 6), x -> x.told(0), 6);
        keeps(x -> come(x, 7), OddPartners::person, -4);
        OddPartners x = house(6);
        due(x.image(), 6);
        due(x.person(), 6);
        due(x.person(), -4);
        due(x.person(), -4);
        due(x.told(0), 7);
        x.undo();
        due(x.person(), 6);
        due(x.person(), -4);
    }

    private static void weighAnswersWhatItWas() {
        of("Promise 3", "WEIGHT of two becomes w: what it was.");
        OddPartners x = house(3);
        due(x.weigh(0, 1, 7), 0);
        due(x.weigh(1, 0, 20), 7);
        due(x.weigh(0, 1, 20), 20);
        due(x.weigh(0, 1, 1), 20);
        due(x.weigh(0, 1, 0), 1);
        due(x.weigh(0, 1, 0), 0);
        due(x.weigh(0, 2, 5), 0);
        due(x.of(0, 1), 0);
        due(x.of(1, 2), 0);
        due(x.of(2, 0), 5);
    }

    private static void weighRefused() {
        of("Promise 3", "NONE; BAD.");
        keeps(Houses::much, x -> x.weigh(0, 0, 3), -1);
        keeps(Houses::much, x -> x.weigh(-1, 0, 3), -1);
        keeps(Houses::much, x -> x.weigh(0, -1, 3), -1);
        keeps(Houses::much, x -> x.weigh(5, 0, 3), -1);
        keeps(Houses::much, x -> x.weigh(0, 5, 3), -1);
        keeps(Houses::much, x -> x.weigh(1, 2, 21), -2);
        keeps(Houses::much, x -> x.weigh(1, 2, -1), -2);
        OddPartners x = house(7, 607);
        due(x.weigh(0, 7, 3), -1);
        due(x.weigh(7, 6, 3), -1);
        due(x.weigh(GREATEST, LEAST, 3), -1);
        due(x.weigh(LEAST, 6, 3), -1);
        due(x.weigh(0, 6, GREATEST), -2);
        due(x.weigh(0, 6, LEAST), -2);
        // both are so: NONE is named first
        due(x.weigh(6, 6, 21), -1);
        due(x.weigh(0, 7, -1), -1);
        due(x.of(0, 6), 7);
    }

    private static void weightAsked() {
        of("Promise 4", "WEIGHT of two.");
        OddPartners x = house(7, 120, 5601, 603);
        due(x.of(0, 1), 20);
        due(x.of(1, 0), 20);
        due(x.of(5, 6), 1);
        due(x.of(6, 0), 3);
        due(x.of(0, 5), 0);
        keeps(Houses::much, y -> y.of(1, 2), 5);
    }

    private static void weightOfNoTwo() {
        of("Promise 4", "NONE.");
        OddPartners x = house(6, 101);
        due(x.of(0, 5), 0);
        due(x.of(0, 6), -1);
        due(x.of(6, 0), -1);
        due(x.of(0, -1), -1);
        due(x.of(-1, 0), -1);
        for (int p = 0; p < 6; p++) {
            due(x.of(p, p), -1);
        }
        due(x.of(LEAST, GREATEST), -1);
        due(x.of(7, 8), -1);
        due(new OddPartners().of(0, 1), -1);
        keeps(Houses::much, y -> y.of(5, 0), -1);
    }

    private static void pairAnswersHowMany() {
        of("Promise 5", "Two become a PAIR: how many PAIRS there are.");
        OddPartners x = house(7, 101, 2301, 5601);
        due(x.pair(6, 5), 1);
        due(x.partner(5), 6);
        due(x.pair(0, 1), 2);
        due(x.pair(2, 3), 3);
        due(x.partner(3), 2);
        due(x.told(2), 3);
        due(x.told(4), 1);
    }

    private static void pairOfNoTwo() {
        of("Promise 5", "NONE;");
        keeps(Houses::much, x -> x.pair(0, 0), -1);
        keeps(Houses::much, x -> x.pair(0, 5), -1);
        keeps(Houses::much, x -> x.pair(-1, 0), -1);
        OddPartners x = house(2, 101);
        due(x.pair(0, 2), -1);
        due(x.pair(2, 0), -1);
        due(x.pair(1, 1), -1);
        due(x.pair(LEAST, 1), -1);
        due(x.pair(0, GREATEST), -1);
        x.pair(0, 1);
        // STATE would stand too: NONE is named first
        due(x.pair(0, 0), -1);
        due(x.pair(1, 2), -1);
        due(x.told(2), 1);
    }

    private static void pairRefused() {
        of("Promise 5", "STATE: they aren't LINKED, or one isn't FREE.");
        keeps(Houses::much, x -> x.pair(0, 1), -3);
        keeps(Houses::much, x -> x.pair(1, 0), -3);
        keeps(Houses::much, x -> x.pair(0, 3), -3);
        keeps(Houses::much, x -> x.pair(1, 2), -3);
        OddPartners x = house(3, 101, 1201);
        due(x.pair(0, 2), -3);
        due(x.pair(0, 1), 1);
        due(x.pair(1, 2), -3);
        due(x.pair(2, 1), -3);
        due(x.partner(2), -5);
        due(x.partner(1), 0);
        x.alone(0);
        due(x.pair(1, 2), 1);
    }

    private static void aloneAnswersThePartner() {
        of("Promise 6", "A PERSON is FREE: the partner that was; -5: none.");
        OddPartners x = house(4, 101, 2301);
        due(x.alone(0), -5);
        pairUp(x, 1, 23);
        due(x.alone(0), 1);
        due(x.partner(0), -5);
        due(x.partner(1), -5);
        due(x.alone(1), -5);
        due(x.told(2), 1);
        due(x.partner(2), 3);
        due(x.alone(3), 2);
        due(x.told(2), 0);
        due(x.of(2, 3), 1);
        due(x.pair(0, 1), 1);
        due(x.alone(1), 0);
        keeps(Houses::much, y -> y.alone(0), -5);
    }

    private static void aloneIsNobody() {
        of("Promise 6", "NONE.");
        keeps(Houses::much, x -> x.alone(5), -1);
        keeps(Houses::much, x -> x.alone(-1), -1);
        due(new OddPartners().alone(0), -1);
        due(house(7).alone(7), -1);
        due(house(7).alone(6), -5);
        due(house(7).alone(LEAST), -1);
        due(house(7).alone(GREATEST), -1);
    }

    private static void partnerAsked() {
        of("Promise 9", "The partner of a PERSON; -5: none.");
        OddPartners x = house(7, 601, 1501);
        due(x.partner(6), -5);
        pairUp(x, 6, 15);
        due(x.partner(0), 6);
        due(x.partner(6), 0);
        due(x.partner(1), 5);
        due(x.partner(5), 1);
        due(x.partner(4), -5);
        keeps(Houses::much, y -> y.partner(1), 2);
        keeps(Houses::much, y -> y.partner(0), -5);
    }

    private static void partnerOfNobody() {
        of("Promise 9", "NONE.");
        due(new OddPartners().partner(0), -1);
        due(house(3).partner(2), -5);
        due(house(3).partner(3), -1);
        due(house(3).partner(-1), -1);
        due(house(7).partner(7), -1);
        due(house(7).partner(GREATEST), -1);
        due(house(7).partner(LEAST), -1);
        keeps(Houses::much, x -> x.partner(5), -1);
    }
}
