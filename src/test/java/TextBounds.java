/** THE TEXT and the set-ups read from it: promises 10 and 11. */
final class TextBounds extends Bounds {
    @Override
    void run() {
        hundredBytes();
        oneToTwelveClauses();
        personComes();
        weightBecomes();
        twoBecomeAPair();
        halvesBecome();
        placesAreADigit();
        numbersAreOneOrTwoDigits();
        nothingBetween();
        firstWrongByte();
        doneInOrder();
        signsFed();
        signRefused();
        textIsFull();
        textIsEmptyThen();
        tenLessTheFault();
    }

    private static String people(int n) {
        return "p" + ";p".repeat(n - 1);
    }

    private static void hundredBytes() {
        of("Terms", "A set-up is read from THE TEXT (bytes, 100 at most):");
        OddPartners x = house(2);
        for (int k = 1; k <= 99; k++) {
            due(x.feed('q'), k);
        }
        due(x.feed('q'), 100);
        due(x.feed('q'), -4);
        due(x.count(4), 100);
        due(x.read(), -10);
        due(x.count(4), 0);
        due(x.feed('p'), 1);
        due(x.read(), 1);
        due(x.told(0), 3);
    }

    private static void oneToTwelveClauses() {
        of("Terms", "CLAUSES, 1 to 12, with ; between (none behind the twelfth):");
        due(read(new OddPartners(), ""), -10);
        due(read(new OddPartners(), "p"), 1);
        due(read(new OddPartners(), "p;"), -12);
        due(read(new OddPartners(), ";p"), -10);
        due(read(new OddPartners(), "p;;p"), -12);
        due(read(new OddPartners(), "pp"), -11);
        due(read(new OddPartners(), "p,p"), -11);
        OddPartners eleven = new OddPartners();
        due(read(eleven, people(2) + ";h01".repeat(9)), 11);
        due(read(eleven, people(2) + ";h01".repeat(9) + ";"), -50);
        OddPartners twelve = new OddPartners();
        due(read(twelve, people(2) + ";h01".repeat(10)), 12);
        due(twelve.told(0), 2);
        due(read(twelve, people(2) + ";h01".repeat(10) + ";"), -53);
        due(read(twelve, people(2) + ";h01".repeat(10) + ";p"), -53);
        due(twelve.told(0), 2);
        // the longest set-up
        due(read(house(2), "w0110" + ";w0110".repeat(11)), 12);
        due(read(house(2), "w0110" + ";w0110".repeat(11) + ";"), -81);
    }

    private static void personComes() {
        of("Terms", "p (a PERSON comes);");
        OddPartners x = new OddPartners();
        due(read(x, "p"), 1);
        due(x.told(0), 1);
        due(read(x, people(6)), 6);
        due(x.told(0), 7);
        // the eighth is refused
        due(read(x, "p"), 0);
        due(x.told(0), 7);
        due(read(x, "p0"), -11);
        due(read(x, "P"), -10);
        due(read(x, "q"), -10);
        due(read(x, "o"), -10);
    }

    private static void weightBecomes() {
        of("Terms", "w i j WEIGHT (it becomes that);");
        OddPartners x = house(7);
        due(read(x, "w0120"), 1);
        due(x.of(0, 1), 20);
        due(read(x, "w0121"), 0);
        due(x.of(0, 1), 20);
        due(read(x, "w1099"), 0);
        due(read(x, "w650"), 1);
        due(read(x, "w659"), 1);
        due(x.of(5, 6), 9);
        x.pair(0, 1);
        due(read(x, "w100"), 1);
        due(x.of(0, 1), 0);
        due(x.partner(0), -5);
        // one twice, and such as are no PEOPLE
        due(read(x, "w005"), 0);
        due(read(x, "w075"), 0);
        due(read(x, "w905"), 0);
        due(read(house(3), "w035"), 0);
        due(x.told(1), 1);
    }

    private static void twoBecomeAPair() {
        of("Terms", "m i j (they become a PAIR);");
        OddPartners x = house(4, 101, 2301, 1201);
        due(read(x, "m10"), 1);
        due(x.partner(0), 1);
        due(read(x, "m01"), 0);
        due(read(x, "m12"), 0);
        due(read(x, "m03"), 0);
        due(read(x, "m33"), 0);
        due(read(x, "m34"), 0);
        due(read(x, "m90"), 0);
        due(x.told(2), 1);
        due(read(x, "m32"), 1);
        due(x.told(2), 2);
    }

    private static void halvesBecome() {
        of("Terms", "h i HALVES.");
        OddPartners x = house(3);
        due(read(x, "h260"), 1);
        due(x.halves(2, 60), 60);
        due(read(x, "h261"), 0);
        due(read(x, "h299"), 0);
        due(x.halves(2, 60), 60);
        due(read(x, "h20"), 1);
        due(x.halves(2, 7), 0);
        due(read(x, "h25"), 1);
        due(x.told(10), 5);
        due(read(x, "h35"), 0);
        due(read(x, "h95"), 0);
        due(x.told(10), 5);
    }

    private static void placesAreADigit() {
        of("Terms", "i, j: a digit each;");
        OddPartners x = house(7);
        // 47 and 58 are the signs beside the digits
        for (String sign : new String[] {"/", ":", "-", "a", ";", " ", "\0", "\177"}) {
            due(read(x, "w" + sign + "11"), -11);
            due(read(x, "w0" + sign + "1"), -12);
            due(read(x, "m" + sign + "1"), -11);
            due(read(x, "m0" + sign), -12);
            due(read(x, "h" + sign + "1"), -11);
        }
        // of digits that name nobody no FAULT comes
        for (char digit = '0'; digit <= '9'; digit++) {
            due(read(x, "h" + digit + "5"), digit < '7' ? 1 : 0);
            due(read(x, "w1" + digit + "5"), digit < '7' && digit != '1' ? 1 : 0);
            due(read(x, "w" + digit + "15"), digit < '7' && digit != '1' ? 1 : 0);
        }
        due(read(x, "m012"), -13);
    }

    private static void numbersAreOneOrTwoDigits() {
        of("Terms", "WEIGHT, HALVES: 1 or 2 digits.");
        OddPartners x = house(2);
        for (String sign : new String[] {"/", ":", "-", "+", ";", " "}) {
            due(read(x, "w01" + sign), -13);
            due(read(x, "h0" + sign), -12);
            // behind the first digit only ; may stand there instead
            due(read(x, "w011" + sign), sign.equals(";") ? -15 : -14);
            due(read(x, "h01" + sign), sign.equals(";") ? -14 : -13);
        }
        due(read(x, "w01"), -13);
        due(read(x, "h0"), -12);
        due(read(x, "w010"), 1);
        due(read(x, "w019"), 1);
        due(x.of(0, 1), 9);
        due(read(x, "w0100"), 1);
        due(x.of(0, 1), 0);
        due(read(x, "w0109"), 1);
        due(x.of(0, 1), 9);
        due(read(x, "w0110"), 1);
        due(x.of(0, 1), 10);
        due(read(x, "w01100"), -15);
        due(read(x, "w01001"), -15);
        due(read(x, "h0100"), -14);
        due(read(x, "h0001"), -14);
        due(read(x, "h009"), 1);
        due(x.told(10), 9);
        due(read(x, "h019"), 1);
        due(x.told(10), 19);
        due(x.of(0, 1), 10);
    }

    private static void nothingBetween() {
        of("Terms", "Nothing stands between (no blanks).");
        String good = "p;w015;m01;h010";
        for (int k = 0; k <= good.length(); k++) {
            OddPartners x = house(2);
            due(read(x, good.substring(0, k) + " " + good.substring(k)), -10 - k);
            due(x.told(0), 2);
        }
        due(read(house(2), good + "\n"), -25);
        due(read(house(2), good), 4);
    }

    private static void firstWrongByte() {
        of("Terms", "The FAULT OF THE TEXT: the place of the first byte with which none begins so "
                + "(the end of THE TEXT, if it ends too early).");
        String good = "p;w0120;m01;h060;p;h15;w013";
        for (int k = 0; k < good.length(); k++) {
            due(read(house(2), good.substring(0, k) + "x" + good.substring(k)), -10 - k);
            String begun = good.substring(0, k);
            int done = doneOf(begun);
            due(read(house(2), begun), done < 0 ? -10 - k : done);
        }
        due(read(house(2), good), 7);
        // the first one, though others follow
        due(read(house(2), "pxx;;"), -11);
        due(read(house(2), "p;w01x;x"), -15);
    }

    /** How many CLAUSES are whole in what the text above begins with; below 0, if one isn't. */
    private static int doneOf(String begun) {
        int[] wholes = {1, 6, 7, 11, 15, 16, 18, 22, 27};
        int[] done = {1, 2, 2, 3, 4, 4, 5, 6, 7};
        for (int k = 0; k < wholes.length; k++) {
            if (wholes[k] == begun.length()) {
                return done[k];
            }
        }
        return -1;
    }

    private static void doneInOrder() {
        of("Terms", "Without it they are done, one behind the other; those that would be refused aren't.");
        OddPartners x = new OddPartners();
        // who isn't there yet has no WEIGHT, who has none no PAIR
        due(read(x, "w015;p;h11;p;m01;w013;m01;w014;h061;h02;m10;w018"), 7);
        due(x.told(0), 2);
        due(x.of(0, 1), 8);
        due(x.partner(1), 0);
        due(x.told(10), 2);
        // with a FAULT none is done, not even those ahead of it
        OddPartners y = house(2, 101);
        due(read(y, "p;w017;m01;h09;"), -25);
        due(y.told(0), 2);
        due(y.of(0, 1), 1);
        due(y.partner(0), -5);
        due(y.told(10), 0);
    }

    private static void signsFed() {
        of("Promise 10", "A sign (0 .. 127) comes behind THE TEXT's: how many it has.");
        OddPartners x = new OddPartners();
        due(x.feed(0), 1);
        due(x.feed(127), 2);
        due(x.feed('p'), 3);
        due(x.count(4), 3);
        due(x.read(), -10);
        due(x.feed('p'), 1);
        due(x.feed(0), 2);
        due(x.read(), -11);
        due(x.feed('p'), 1);
        due(x.feed(127), 2);
        due(x.read(), -11);
        due(x.feed('p'), 1);
        due(x.feed(';'), 2);
        due(x.feed('p'), 3);
        due(x.read(), 2);
    }

    private static void signRefused() {
        of("Promise 10", "BAD;");
        keeps(Houses::much, x -> x.feed(-1), -2);
        keeps(Houses::much, x -> x.feed(128), -2);
        keeps(Houses::much, x -> x.feed(LEAST), -2);
        keeps(Houses::much, x -> x.feed(GREATEST), -2);
        // 256 and 112, 'p' if but its lowest bits were taken
        keeps(Houses::much, x -> x.feed(368), -2);
        OddPartners x = new OddPartners();
        longText(x);
        due(x.feed(128), -2);
        due(x.feed(-1), -2);
        due(x.count(4), 100);
    }

    private static void longText(OddPartners x) {
        come(x, 2);
        feed(x, "p;".repeat(50));
    }

    private static void textIsFull() {
        of("Promise 10", "FULL.");
        keeps(TextBounds::longText, x -> x.feed('p'), -4);
        keeps(TextBounds::longText, x -> x.feed(0), -4);
        OddPartners x = new OddPartners();
        longText(x);
        due(x.feed(127), -4);
        x.read();
        due(x.feed(127), 1);
    }

    private static void textIsEmptyThen() {
        of("Promise 11", "THE TEXT, which is empty then (by a FAULT, too), is a set-up: how many CLAUSES were done;");
        OddPartners x = new OddPartners();
        due(read(x, "p;p"), 2);
        due(x.count(4), 0);
        due(x.read(), -10);
        due(read(x, "p;x"), -12);
        due(x.count(4), 0);
        due(read(x, "p"), 1);
        due(x.told(0), 3);
        // what was read stays as it is, and CLAUSES of the text before aren't done again
        due(read(x, "m01"), 0);
        due(x.count(4), 0);
        due(x.told(0), 3);
        due(read(x, "w017;w017;w077;h00"), 3);
    }

    private static void tenLessTheFault() {
        of("Promise 11", "-10 less the FAULT OF THE TEXT.");
        keeps(x -> come(x, 3), OddPartners::read, -10);
        keeps(x -> come(x, 3), x -> read(x, "x"), -10);
        keeps(x -> come(x, 3), x -> read(x, "px"), -11);
        keeps(x -> come(x, 3), x -> read(x, "p;p;w01"), -17);
        OddPartners x = new OddPartners();
        longText(x);
        due(x.read(), -33);
        due(read(x, "w0110" + ";w0110".repeat(11) + "0"), -81);
    }
}
