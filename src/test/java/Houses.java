/** Set-ups that tests begin with. */
class Houses {
    static final int LEAST = Integer.MIN_VALUE, GREATEST = Integer.MAX_VALUE;
    static final long NO = Long.MIN_VALUE;

    /** n PEOPLE; a link is 1000 i and 100 j and the WEIGHT, together: 1203 is 1, 2 with 3. */
    static OddPartners house(int n, int... links) {
        OddPartners x = new OddPartners();
        come(x, n);
        weighAll(x, links);
        return x;
    }

    static void come(OddPartners x, int n) {
        for (int k = 0; k < n; k++) {
            x.person();
        }
    }

    static void weighAll(OddPartners x, int... links) {
        for (int link : links) {
            x.weigh(link / 1000, link / 100 % 10, link % 100);
        }
    }

    /** Twos as 10 i and j: 12 is 1, 2. */
    static void pairUp(OddPartners x, int... twos) {
        for (int two : twos) {
            x.pair(two / 10, two % 10);
        }
    }

    static void feed(OddPartners x, String text) {
        for (int k = 0; k < text.length(); k++) {
            x.feed(text.charAt(k));
        }
    }

    static int read(OddPartners x, String text) {
        feed(x, text);
        return x.read();
    }

    /** Five PEOPLE and some of everything, with room for one more; an IMAGE of other things. */
    static void much(OddPartners x) {
        come(x, 4);
        weighAll(x, 102, 1203, 2307, 1305);
        pairUp(x, 1, 23);
        x.halves(2, 8);
        x.odd(14, 6);
        x.see(1, 3);
        x.event(2, 4);
        x.book(0, 1);
        x.image();
        x.person();
        x.alone(0);
        x.alone(2);
        weighAll(x, 104, 1205, 2306, 1300, 3403, 2407);
        pairUp(x, 12, 34);
        x.halves(0, 3);
        x.halves(1, 7);
        x.halves(2, 0);
        x.halves(4, 1);
        x.odd(-1, 0);
        x.odd(28, 5);
        x.odd(7, 2);
        x.see(-1, 0);
        x.see(0, 1);
        x.see(3, 2);
        x.event(1, 2);
        x.event(0, 4);
        x.book(-1, 0);
        x.book(1, 2);
        x.book(0, 3);
        feed(x, "p;w059;h58;m05");
        muchOnTapes(x);
    }

    /** TAPE 0 longs, 1 bytes, 2 ints, 3 shorts, 4 booleans, 5 nothing. */
    private static void muchOnTapes(OddPartners x) {
        x.tape(0, 3, 4);
        x.item(0, 0, -1);
        x.item(0, 1, 2);
        x.item(0, 3, 1L << 40);
        x.tape(1, 0, 3);
        x.item(1, 1, 100);
        x.tape(2, 2, 2);
        x.item(2, 1, -9);
        x.tape(3, 1, 2);
        x.item(3, 0, 300);
        x.tape(4, 4, 2);
        x.item(4, 1, 1);
    }

    /** As many PEOPLE, PAIRS and rows as there may be. */
    static void full(OddPartners x) {
        come(x, 7);
        weighAll(x, 104, 2306, 4505, 607);
        pairUp(x, 1, 23, 45);
        x.halves(6, 60);
        x.odd(7, 1);
        x.odd(112, 2);
        x.odd(127, 3);
        for (int k = 0; k < 5; k++) {
            x.see(2, 3);
        }
        for (int k = 0; k < 8; k++) {
            x.event(1, 2);
            x.book(0, 1);
        }
        x.image();
    }
}
