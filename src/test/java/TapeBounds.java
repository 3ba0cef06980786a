/** TAPES, judging, THE IMAGE: promises 31 to 38. */
final class TapeBounds extends Bounds {
    private static final int BYTES = 0, SHORTS = 1, INTS = 2, LONGS = 3, BOOLEANS = 4;

    @Override
    void run() {
        sixTapes();
        judged();
        rowEnds();
        refusals();
        image();
        judgeTold();
        judgeOfNoTape();
        judgeOfAnotherSort();
        imageTaken();
        allAsTheImage();
        noImage();
        counted();
        nothingCounted();
        tapeBecomes();
        noSuchTape();
        tapeRefused();
        sizeBelowNought();
        itemBecomes();
        itemOfNoTape();
        itemOfNothing();
        itemOfNoPlace();
        peeked();
        nothingToPeek();
        shifted();
        shiftOfNoTape();
        shiftOfNothing();
        shiftOfUnlikeSorts();
        shiftOfNoPlace();
    }

    private static void row(OddPartners x, int tape, int sort, long... items) {
        x.tape(tape, sort, items.length);
        for (int k = 0; k < items.length; k++) {
            x.item(tape, k, items[k]);
        }
    }

    private static void rowIs(OddPartners x, int tape, long... items) {
        for (int k = 0; k < items.length; k++) {
            due(x.peek(tape, k), items[k]);
        }
        due(x.peek(tape, items.length), NO);
    }

    private static void sixTapes() {
        of("Terms", "TAPES 0 .. 5 hold nothing (at first), or a row of 0 bytes, 1 shorts, 2 ints, 3 longs, 4 booleans "
                + "(items 0, 1).");
        OddPartners x = new OddPartners();
        for (int t = 0; t <= 5; t++) {
            due(x.peek(t, 0), NO);
            due(x.item(t, 0, 1), -11);
            due(x.shift(t, 0, t, 0, 0), -11);
        }
        due(x.item(6, 0, 1), -1);
        due(x.item(-1, 0, 1), -1);
        for (int t = 0; t <= 5; t++) {
            due(x.tape(t, t % 5, 1), 1);
            due(x.item(t, 0, t + 1), 1);
        }
        for (int t = 0; t <= 5; t++) {
            due(x.peek(t, 0), t == BOOLEANS ? 1 : t + 1);
        }
        // by each sort the last number that there is and the first that isn't, on both sides
        long[][] ends = {{-128, 127}, {-32768, 32767}, {LEAST, GREATEST}, {NO, Long.MAX_VALUE}};
        for (int sort = BYTES; sort <= LONGS; sort++) {
            row(x, 0, sort, ends[sort][0], ends[sort][1], ends[sort][0] - 1, ends[sort][1] + 1);
            rowIs(x, 0, ends[sort][0], ends[sort][1], ends[sort][1], ends[sort][0]);
        }
        row(x, 0, BOOLEANS, 0, 1, 2, -1);
        rowIs(x, 0, 0, 1, 1, 1);
    }

    private static void judged() {
        of("Terms", "Partners told by a row of longs, from a place on, PERSON by PERSON (nobody: -1), are JUDGED: "
                + "the first PERSON whose is otherwise; -5: none;");
        OddPartners x = house(5, 101, 2401);
        pairUp(x, 1, 24);
        row(x, 0, LONGS, 1, 0, 4, -1, 2);
        due(x.judge(0, 0), -5);
        for (int p = 0; p < 5; p++) {
            long right = x.peek(0, p);
            for (long otherwise : new long[] {-5, -2, 0, 1, 2, 3, 4, 5, -1, right + (1L << 32), right + 256, NO,
                Long.MAX_VALUE}) {
                x.item(0, p, otherwise);
                due(x.judge(0, 0), otherwise == right ? -5 : p);
            }
            x.item(0, p, right);
        }
        // the first one of several
        x.item(0, 4, 0);
        x.item(0, 3, 0);
        due(x.judge(0, 0), 3);
        x.item(0, 1, 9);
        due(x.judge(0, 0), 1);
        // from a place on
        row(x, 1, LONGS, 9, 9, 1, 0, 4, -1, 2, 9);
        due(x.judge(1, 2), -5);
        due(x.judge(1, 1), 0);
        // nobody has one, or has one any more
        OddPartners free = house(7, 101);
        row(free, 5, LONGS, -1, -1, -1, -1, -1, -1, -1);
        due(free.judge(5, 0), -5);
        free.pair(0, 1);
        due(free.judge(5, 0), 0);
        free.alone(0);
        due(free.judge(5, 0), -5);
        free.image();
        free.take(0);
        due(free.judge(5, 0), 0);
        free.weigh(0, 1, 0);
        due(free.judge(5, 0), -5);
        free.take(1);
        due(free.judge(5, 0), -5);
        free.undo();
        due(free.judge(5, 0), -5);
        free.mend(1);
        free.alone(1);
        due(free.judge(5, 0), -5);
        row(free, 5, LONGS, -1, -1, -1, -1, -1, -1, -5);
        due(free.judge(5, 0), 6);
    }

    private static void rowEnds() {
        of("Terms", "100 and how many were looked at, if the row ends ahead of that (or the place is below 0, "
                + "or the TAPE holds nothing).");
        OddPartners x = house(7, 601);
        x.pair(0, 6);
        long[] right = {6, -1, -1, -1, -1, -1, 0};
        for (int n = 0; n <= 7; n++) {
            row(x, 0, LONGS, java.util.Arrays.copyOf(right, n));
            due(x.judge(0, 0), n < 7 ? 100 + n : -5);
            due(x.judge(0, -1), 100);
            due(x.judge(0, n), 100);
            due(x.judge(0, n + 1), 100);
        }
        // the row's last one is otherwise: ahead of the end
        row(x, 0, LONGS, 6, -1, 5);
        due(x.judge(0, 0), 2);
        row(x, 0, LONGS, 9, 6, -1);
        due(x.judge(0, 1), 102);
        due(x.judge(0, LEAST), 100);
        due(x.judge(0, GREATEST), 100);
        due(x.judge(0, GREATEST - 3), 100);
        // the longest row, its last places
        x.tape(1, LONGS, 60);
        for (int p = 0; p < 7; p++) {
            x.item(1, 53 + p, right[p]);
        }
        due(x.judge(1, 53), -5);
        due(x.judge(1, 59), 0);
        x.item(1, 59, 6);
        due(x.judge(1, 53), 6);
        due(x.judge(1, 59), 101);
        due(x.judge(1, 60), 100);
        x.tape(1, -1, 0);
        for (int i : new int[] {0, 1, -1, LEAST, GREATEST}) {
            due(x.judge(1, i), 100);
            due(x.judge(2, i), 100);
        }
    }

    private static void refusals() {
        of("Terms", "The host's refusals: NOTHING (-11): nothing is there; CAST (-12): another sort; "
                + "PLACE (-13): no such place; SIZE (-14): a size below 0.");
        OddPartners x = house(1);
        due(x.item(0, 0, 1), -11);
        due(x.tape(0, INTS, -1), -14);
        due(x.item(0, 0, 1), -11);
        x.tape(0, INTS, 1);
        due(x.judge(0, 0), -12);
        due(x.item(0, 1, 1), -13);
        due(x.item(0, 0, 1), 1);
    }

    private static void image() {
        of("Terms", "THE IMAGE: PEOPLE, WEIGHTS, PAIRS, HALVES, ODD SETS, SEEN, EVENTS, the BOOK.");
        peopleOfTheImage();
        pairsOfTheImage();
        halvesOfTheImage();
        rowsOfTheImage();
        rowsBesideTheImage();
    }

    private static void peopleOfTheImage() {
        OddPartners x = house(2, 107);
        x.image();
        x.person();
        weighAll(x, 102, 203, 1204);
        x.pair(0, 2);
        x.halves(2, 8);
        x.undo();
        due(x.told(0), 2);
        due(x.of(0, 1), 7);
        due(x.of(0, 2), -1);
        due(x.partner(0), -5);
        due(x.told(10), 0);
        // who comes then is as new
        due(x.person(), 2);
        due(x.of(0, 2), 0);
        due(x.of(1, 2), 0);
        due(x.partner(2), -5);
        due(x.halves(2, 1), 0);
    }

    private static void pairsOfTheImage() {
        OddPartners x = house(6, 101, 2301, 1201, 4501);
        pairUp(x, 1, 23);
        x.image();
        x.alone(0);
        x.alone(2);
        pairUp(x, 12, 45);
        x.undo();
        due(x.partner(0), 1);
        due(x.partner(1), 0);
        due(x.partner(2), 3);
        due(x.partner(4), -5);
        due(x.partner(5), -5);
        x.weigh(0, 1, 0);
        due(x.told(2), 1);
        x.undo();
        due(x.told(2), 2);
        due(x.of(0, 1), 1);
    }

    private static void halvesOfTheImage() {
        OddPartners x = house(3, 109);
        x.halves(0, 60);
        x.halves(1, 1);
        x.odd(7, 5);
        x.image();
        x.halves(0, 2);
        x.halves(1, 0);
        x.odd(7, 6);
        x.odd(7, 7);
        x.undo();
        due(x.told(10), 66);
        due(x.count(0), 1);
        x.odd(-1, 0);
        x.odd(7, 40);
        x.undo();
        due(x.told(10), 66);
        x.bear();
        due(x.told(10), 18);
        x.undo();
        due(x.halves(1, 0), 1);
        due(x.halves(0, 0), 60);
        due(x.proof(2), 13);
    }

    private static void rowsOfTheImage() {
        OddPartners x = house(4, 105, 1206, 2305);
        x.pair(1, 2);
        x.see(0, 1);
        x.event(0, 0);
        x.book(1, 2);
        x.image();
        x.see(1, 2);
        x.event(0, 2);
        x.book(0, 1);
        x.undo();
        due(x.count(1), 1);
        due(x.fits(0, 3, 0), 5);
        due(x.count(2), 1);
        due(x.after(0), 6);
        due(x.count(3), 1);
        due(x.looked(), -5);
        x.see(-1, 0);
        x.see(1, 2);
        x.event(-1, 0);
        x.event(0, 2);
        x.book(-1, 0);
        x.book(0, 1);
        x.undo();
        due(x.fits(0, 3, 0), 5);
        due(x.after(0), 6);
        due(x.looked(), -5);
        x.see(-1, 0);
        x.event(-1, 0);
        x.book(-1, 0);
        x.undo();
        due(x.count(1), 1);
        due(x.count(2), 1);
        due(x.count(3), 1);
        due(x.after(0), 6);
    }

    /** As many rows as there may be, and none. */
    private static void rowsBesideTheImage() {
        OddPartners x = new OddPartners();
        full(x);
        x.odd(-1, 0);
        x.see(-1, 0);
        x.event(-1, 0);
        x.book(-1, 0);
        due(x.undo(), 7);
        int[] counts = {3, 5, 8, 8, 0};
        for (int k = 0; k < counts.length; k++) {
            due(x.count(k), counts[k]);
        }
        due(x.odd(7, 1), -4);
        due(x.see(0, 1), -4);
        due(x.event(3, 0), -4);
        due(x.book(0, 1), -4);
        due(x.person(), -4);
        OddPartners none = house(7);
        none.image();
        none.odd(7, 1);
        none.see(0, 1);
        none.event(3, 0);
        none.book(0, 1);
        none.undo();
        for (int k = 0; k < counts.length; k++) {
            due(none.count(k), 0);
        }
    }

    private static void judgeTold() {
        of("Promise 31", "JUDGED from place i of a TAPE on (-5: no PEOPLE, also if it holds nothing; "
                + "NONE, CAST go ahead of that).");
        OddPartners none = new OddPartners();
        for (int i : new int[] {0, 1, -1, 60, LEAST, GREATEST}) {
            due(none.judge(0, i), -5);
            due(none.judge(-1, i), -1);
            due(none.judge(6, i), -1);
        }
        none.tape(0, LONGS, 0);
        none.tape(1, LONGS, 3);
        none.tape(2, BOOLEANS, 3);
        for (int i : new int[] {0, 1, -1, 3, 4, LEAST, GREATEST}) {
            due(none.judge(0, i), -5);
            due(none.judge(1, i), -5);
            due(none.judge(2, i), -12);
        }
        none.person();
        due(none.judge(3, 0), 100);
        due(none.judge(0, 0), 100);
        due(none.judge(1, 0), 0);
        none.item(1, 2, -1);
        due(none.judge(1, 2), -5);
        // by the PAIRS that are, not by BEST
        OddPartners x = house(2, 101);
        row(x, 0, LONGS, 1, 0);
        due(x.judge(0, 0), 0);
        x.pair(0, 1);
        due(x.judge(0, 0), -5);
        keeps(Houses::much, y -> y.judge(0, 0), 2);
        keeps(Houses::much, y -> y.judge(5, 0), 100);
        keeps(Houses::much, y -> y.judge(0, -1), 100);
    }

    private static void judgeOfNoTape() {
        of("Promise 31", "NONE: tape;");
        keeps(Houses::much, x -> x.judge(-1, 0), -1);
        keeps(Houses::much, x -> x.judge(6, 0), -1);
        due(house(1).judge(LEAST, 0), -1);
        due(house(1).judge(GREATEST, 0), -1);
        due(house(1).judge(6, -1), -1);
        due(house(1).judge(5, 0), 100);
    }

    private static void judgeOfAnotherSort() {
        of("Promise 31", "CAST: it is no row of longs.");
        for (int sort = BYTES; sort <= BOOLEANS; sort++) {
            OddPartners x = house(2);
            x.tape(5, sort, 2);
            due(x.judge(5, 0), sort == LONGS ? 0 : -12);
            due(x.judge(5, -1), sort == LONGS ? 100 : -12);
            due(x.judge(5, 2), sort == LONGS ? 100 : -12);
            x.tape(5, sort, 0);
            due(x.judge(5, 0), sort == LONGS ? 100 : -12);
        }
        keeps(Houses::much, x -> x.judge(1, 0), -12);
        keeps(Houses::much, x -> x.judge(4, 0), -12);
    }

    private static void imageTaken() {
        of("Promise 32", "THE IMAGE is taken: how many PEOPLE there are.");
        OddPartners x = new OddPartners();
        due(x.image(), 0);
        for (int p = 1; p <= 7; p++) {
            x.person();
            due(x.image(), p);
            due(x.told(0), p);
        }
        // the last one that was taken
        OddPartners y = house(2, 103);
        y.image();
        y.weigh(0, 1, 4);
        y.image();
        y.weigh(0, 1, 5);
        y.undo();
        due(y.of(0, 1), 4);
    }

    private static void allAsTheImage() {
        of("Promise 33", "All is as THE IMAGE (THE TEXT and the TAPES stay as they are): how many PEOPLE.");
        OddPartners x = house(3);
        feed(x, "p;w0");
        row(x, 1, SHORTS, 3, 4);
        x.image();
        feed(x, "19");
        x.item(1, 1, 5);
        row(x, 0, LONGS, 6);
        x.person();
        due(x.undo(), 3);
        due(x.count(4), 6);
        rowIs(x, 1, 3, 5);
        rowIs(x, 0, 6);
        due(x.read(), 2);
        due(x.of(0, 1), 9);
        due(x.undo(), 3);
        due(x.count(4), 0);
        due(x.of(0, 1), 0);
        x.tape(1, -1, 0);
        due(x.undo(), 3);
        due(x.peek(1, 0), NO);
        // THE IMAGE stays, whatever is done behind it
        x.person();
        x.weigh(0, 1, 8);
        due(x.undo(), 3);
        due(x.undo(), 3);
        due(x.of(0, 1), 0);
        OddPartners none = new OddPartners();
        none.image();
        full(none);
        due(none.undo(), 7);
        OddPartners empty = new OddPartners();
        empty.image();
        empty.person();
        due(empty.undo(), 0);
        due(empty.told(0), 0);
        due(empty.person(), 0);
    }

    private static void noImage() {
        of("Promise 33", "STATE: there is none.");
        due(new OddPartners().undo(), -3);
        keeps(TapeBounds::withoutImage, OddPartners::undo, -3);
        OddPartners x = house(3, 101);
        x.pair(0, 1);
        due(x.undo(), -3);
        due(x.partner(0), 1);
        due(x.image(), 3);
        due(x.undo(), 3);
    }

    private static void withoutImage(OddPartners x) {
        come(x, 3);
        weighAll(x, 104, 1205);
        x.pair(0, 1);
        x.halves(2, 7);
        x.odd(7, 3);
        x.see(1, 2);
        x.event(1, 0);
        x.book(0, 1);
        feed(x, "p");
        row(x, 3, BYTES, 1, 2);
    }

    private static void counted() {
        of("Promise 34", "How many: 0 ODD SETS, 1 SEEN, 2 EVENTS, 3 of the BOOK, 4 bytes of THE TEXT.");
        OddPartners x = house(3);
        int[] counts = new int[5];
        for (int k = 0; k < 9; k++) {
            for (int what = 0; what < 5; what++) {
                due(x.count(what), counts[what]);
            }
            int which = new int[] {4, 2, 3, 0, 1, 4, 4, 3, 2}[k];
            counts[which]++;
            switch (which) {
                case 0: x.odd(7, 1); break;
                case 1: x.see(0, 1); break;
                case 2: x.event(3, 0); break;
                case 3: x.book(0, 1); break;
                default: x.feed('p');
            }
        }
        OddPartners all = new OddPartners();
        full(all);
        feed(all, "p".repeat(101));
        int[] most = {3, 5, 8, 8, 100};
        for (int what = 0; what < 5; what++) {
            due(all.count(what), most[what]);
            due(new OddPartners().count(what), 0);
        }
        keeps(Houses::much, y -> y.count(4), 14);
    }

    private static void nothingCounted() {
        of("Promise 34", "BAD.");
        keeps(Houses::much, x -> x.count(-1), -2);
        keeps(Houses::much, x -> x.count(5), -2);
        due(new OddPartners().count(5), -2);
        due(new OddPartners().count(-1), -2);
        due(new OddPartners().count(LEAST), -2);
        due(new OddPartners().count(GREATEST), -2);
    }

    private static void tapeBecomes() {
        of("Promise 35", "A TAPE becomes a row of n (0 .. 60) of a sort, all 0, or holds nothing (sort -1: n does not "
                + "matter): 1.");
        OddPartners x = new OddPartners();
        for (int sort = BYTES; sort <= BOOLEANS; sort++) {
            due(x.tape(5, sort, 60), 1);
            for (int k = 0; k < 60; k++) {
                due(x.peek(5, k), 0);
                x.item(5, k, -1);
            }
            due(x.peek(5, 60), NO);
            due(x.tape(5, sort, 0), 1);
            due(x.peek(5, 0), NO);
            due(x.item(5, 0, 0), -13);
            due(x.tape(5, sort, 1), 1);
            due(x.peek(5, 0), 0);
            due(x.peek(5, 1), NO);
        }
        // a row is made anew, of the same sort and size too
        row(x, 2, INTS, 1, 2, 3);
        due(x.tape(2, INTS, 3), 1);
        rowIs(x, 2, 0, 0, 0);
        for (int n : new int[] {0, 61, -1, LEAST, GREATEST}) {
            row(x, 2, INTS, 1);
            due(x.tape(2, -1, n), 1);
            due(x.peek(2, 0), NO);
            due(x.item(2, 0, 1), -11);
            due(x.tape(2, -1, n), 1);
        }
        // the others stay
        row(x, 1, LONGS, 11);
        row(x, 3, LONGS, 33);
        x.tape(2, LONGS, 60);
        x.tape(2, -1, 0);
        rowIs(x, 1, 11);
        rowIs(x, 3, 33);
    }

    private static void noSuchTape() {
        of("Promise 35", "NONE: tape;");
        keeps(Houses::much, x -> x.tape(-1, 0, 1), -1);
        keeps(Houses::much, x -> x.tape(6, 0, 1), -1);
        keeps(Houses::much, x -> x.tape(6, -1, 0), -1);
        due(new OddPartners().tape(LEAST, 0, 1), -1);
        due(new OddPartners().tape(GREATEST, 0, 1), -1);
        // ahead of BAD and SIZE
        due(new OddPartners().tape(6, 5, 1), -1);
        due(new OddPartners().tape(-1, 0, 61), -1);
        due(new OddPartners().tape(6, 0, -1), -1);
    }

    private static void tapeRefused() {
        of("Promise 35", "BAD: sort, n above 60;");
        keeps(Houses::much, x -> x.tape(0, 5, 1), -2);
        keeps(Houses::much, x -> x.tape(0, -2, 1), -2);
        keeps(Houses::much, x -> x.tape(0, 3, 61), -2);
        keeps(Houses::much, x -> x.tape(5, 0, GREATEST), -2);
        due(new OddPartners().tape(0, LEAST, 1), -2);
        due(new OddPartners().tape(0, GREATEST, 1), -2);
        due(new OddPartners().tape(0, 0, 61), -2);
        due(new OddPartners().tape(0, 0, 60), 1);
        // ahead of SIZE
        due(new OddPartners().tape(0, 5, -1), -2);
        due(new OddPartners().tape(0, -2, LEAST), -2);
    }

    private static void sizeBelowNought() {
        of("Promise 35", "SIZE.");
        keeps(Houses::much, x -> x.tape(0, 3, -1), -14);
        keeps(Houses::much, x -> x.tape(5, 0, LEAST), -14);
        for (int sort = BYTES; sort <= BOOLEANS; sort++) {
            due(new OddPartners().tape(0, sort, -1), -14);
            due(new OddPartners().tape(0, sort, 0), 1);
        }
    }

    private static void itemBecomes() {
        of("Promise 36", "Item i of a TAPE becomes v (its lowest bits, as many as an item has; booleans: whether v is "
                + "not 0): 1.");
        OddPartners x = new OddPartners();
        long v = 0x8123_4567_89AB_CDEFL;
        long[] lowest = {(byte) 0xEF, (short) 0xCDEF, 0x89AB_CDEF, v, 1};
        for (int sort = BYTES; sort <= BOOLEANS; sort++) {
            x.tape(sort, sort, 60);
            due(x.item(sort, 0, v), 1);
            due(x.item(sort, 59, v), 1);
            due(x.peek(sort, 0), lowest[sort]);
            due(x.peek(sort, 59), lowest[sort]);
            due(x.peek(sort, 1), 0);
            due(x.peek(sort, 58), 0);
            due(x.item(sort, 0, 0), 1);
            due(x.peek(sort, 0), 0);
        }
        row(x, 0, BYTES, 127, 128, 255, 256, -128, -129);
        rowIs(x, 0, 127, -128, -1, 0, -128, 127);
        row(x, 1, SHORTS, 32767, 32768, 65535, 65536, -32769);
        rowIs(x, 1, 32767, -32768, -1, 0, 32767);
        row(x, 2, INTS, GREATEST, GREATEST + 1L, -1, 1L << 32, LEAST - 1L);
        rowIs(x, 2, GREATEST, LEAST, -1, 0, GREATEST);
        row(x, 3, LONGS, Long.MAX_VALUE, NO, -1, 0);
        rowIs(x, 3, Long.MAX_VALUE, NO, -1, 0);
        row(x, 4, BOOLEANS, 0, 1, 2, 256, 1L << 32, -1, NO);
        rowIs(x, 4, 0, 1, 1, 1, 1, 1, 1);
    }

    private static void itemOfNoTape() {
        of("Promise 36", "NONE;");
        keeps(Houses::much, x -> x.item(-1, 0, 1), -1);
        keeps(Houses::much, x -> x.item(6, 0, 1), -1);
        due(new OddPartners().item(LEAST, 0, 1), -1);
        due(new OddPartners().item(GREATEST, 0, 1), -1);
        due(new OddPartners().item(6, -1, 1), -1);
        due(new OddPartners().item(5, -1, 1), -11);
    }

    private static void itemOfNothing() {
        of("Promise 36", "NOTHING;");
        keeps(Houses::much, x -> x.item(5, 0, 1), -11);
        // ahead of PLACE
        keeps(Houses::much, x -> x.item(5, -1, 1), -11);
        due(new OddPartners().item(0, 0, 0), -11);
        due(new OddPartners().item(0, 60, 0), -11);
    }

    private static void itemOfNoPlace() {
        of("Promise 36", "PLACE.");
        keeps(Houses::much, x -> x.item(0, 4, 1), -13);
        keeps(Houses::much, x -> x.item(0, -1, 1), -13);
        keeps(Houses::much, x -> x.item(0, LEAST, 1), -13);
        keeps(Houses::much, x -> x.item(0, GREATEST, 1), -13);
        OddPartners x = new OddPartners();
        x.tape(0, LONGS, 60);
        x.tape(1, LONGS, 0);
        due(x.item(0, 59, 1), 1);
        due(x.item(0, 60, 1), -13);
        due(x.item(1, 0, 1), -13);
    }

    private static void peeked() {
        of("Promise 37", "Item i of a TAPE.");
        OddPartners x = new OddPartners();
        row(x, 0, BYTES, 5, -6);
        row(x, 5, LONGS, 7, NO, Long.MAX_VALUE);
        due(x.peek(0, 0), 5);
        due(x.peek(0, 1), -6);
        due(x.peek(5, 0), 7);
        due(x.peek(5, 1), NO);
        due(x.peek(5, 2), Long.MAX_VALUE);
        keeps(Houses::much, y -> y.peek(0, 3), 1L << 40);
    }

    private static void nothingToPeek() {
        of("Promise 37", "NO: no such TAPE, nothing there, no such place.");
        keeps(Houses::much, x -> x.peek(-1, 0), NO);
        keeps(Houses::much, x -> x.peek(6, 0), NO);
        keeps(Houses::much, x -> x.peek(5, 0), NO);
        keeps(Houses::much, x -> x.peek(0, 4), NO);
        keeps(Houses::much, x -> x.peek(0, -1), NO);
        OddPartners x = new OddPartners();
        x.tape(0, LONGS, 60);
        x.tape(1, LONGS, 0);
        due(x.peek(0, 59), 0);
        due(x.peek(0, 60), NO);
        due(x.peek(1, 0), NO);
        due(x.peek(LEAST, 0), NO);
        due(x.peek(GREATEST, 0), NO);
        due(x.peek(0, LEAST), NO);
        due(x.peek(0, GREATEST), NO);
        x.tape(0, -1, 0);
        due(x.peek(0, 0), NO);
    }

    private static void shifted() {
        of("Promise 38", "n items of a TAPE from i on come to another one (or the same) from j on, as they all were "
                + "before: n.");
        OddPartners x = new OddPartners();
        row(x, 0, INTS, 1, 2, 3, 4, 5);
        row(x, 1, INTS, 6, 7, 8);
        due(x.shift(0, 2, 1, 0, 2), 2);
        rowIs(x, 1, 3, 4, 8);
        rowIs(x, 0, 1, 2, 3, 4, 5);
        due(x.shift(1, 0, 0, 2, 3), 3);
        rowIs(x, 0, 1, 2, 3, 4, 8);
        // the same one, to either side
        due(x.shift(0, 0, 0, 1, 4), 4);
        rowIs(x, 0, 1, 1, 2, 3, 4);
        due(x.shift(0, 1, 0, 0, 4), 4);
        rowIs(x, 0, 1, 2, 3, 4, 4);
        due(x.shift(0, 0, 0, 0, 5), 5);
        rowIs(x, 0, 1, 2, 3, 4, 4);
        due(x.shift(0, 4, 1, 2, 1), 1);
        rowIs(x, 1, 3, 4, 4);
        due(x.shift(0, 1, 1, 1, 0), 0);
        rowIs(x, 1, 3, 4, 4);
        // the longest one, whole
        for (int sort = BYTES; sort <= BOOLEANS; sort++) {
            x.tape(2, sort, 60);
            x.tape(5, sort, 60);
            x.item(2, 0, 1);
            x.item(2, 59, 1);
            due(x.shift(2, 0, 5, 0, 60), 60);
            due(x.peek(5, 0), 1);
            due(x.peek(5, 1), 0);
            due(x.peek(5, 59), 1);
        }
        due(x.peek(4, 0), NO);
    }

    private static void shiftOfNoTape() {
        of("Promise 38", "NONE: tapes;");
        keeps(Houses::much, x -> x.shift(-1, 0, 0, 0, 1), -1);
        keeps(Houses::much, x -> x.shift(6, 0, 0, 0, 1), -1);
        keeps(Houses::much, x -> x.shift(0, 0, -1, 0, 1), -1);
        keeps(Houses::much, x -> x.shift(0, 0, 6, 0, 1), -1);
        // ahead of NOTHING
        keeps(Houses::much, x -> x.shift(5, 0, 6, 0, 1), -1);
        keeps(Houses::much, x -> x.shift(-1, 0, 5, 0, 1), -1);
        due(new OddPartners().shift(LEAST, 0, GREATEST, 0, 0), -1);
    }

    private static void shiftOfNothing() {
        of("Promise 38", "NOTHING;");
        keeps(Houses::much, x -> x.shift(5, 0, 0, 0, 1), -11);
        keeps(Houses::much, x -> x.shift(0, 0, 5, 0, 1), -11);
        keeps(Houses::much, x -> x.shift(5, 0, 5, 0, 0), -11);
        // ahead of PLACE
        keeps(Houses::much, x -> x.shift(0, -1, 5, 0, -1), -11);
    }

    private static void shiftOfUnlikeSorts() {
        of("Promise 38", "CAST: of unlike sorts;");
        keeps(Houses::much, x -> x.shift(0, 0, 2, 0, 1), -12);
        keeps(Houses::much, x -> x.shift(1, 0, 4, 0, 0), -12);
        // ahead of PLACE
        keeps(Houses::much, x -> x.shift(0, -1, 1, 0, 1), -12);
        keeps(Houses::much, x -> x.shift(0, 0, 1, 0, 99), -12);
        for (int sort = BYTES; sort <= BOOLEANS; sort++) {
            for (int other = BYTES; other <= BOOLEANS; other++) {
                OddPartners x = new OddPartners();
                x.tape(0, sort, 1);
                x.tape(1, other, 1);
                due(x.shift(0, 0, 1, 0, 1), sort == other ? 1 : -12);
            }
        }
    }

    private static void shiftOfNoPlace() {
        of("Promise 38", "PLACE: n, i or j is below 0, or beyond either's end.");
        keeps(Houses::much, x -> x.shift(0, 0, 0, 1, -1), -13);
        keeps(Houses::much, x -> x.shift(0, -1, 0, 1, 1), -13);
        keeps(Houses::much, x -> x.shift(0, 1, 0, -1, 1), -13);
        keeps(Houses::much, x -> x.shift(0, 1, 0, 2, 3), -13);
        keeps(Houses::much, x -> x.shift(0, 2, 0, 1, 3), -13);
        OddPartners x = new OddPartners();
        row(x, 0, BYTES, 1, 2, 3, 4);
        row(x, 1, BYTES, 5, 6);
        // each end, just there and one beyond it
        due(x.shift(0, 3, 1, 0, 2), -13);
        due(x.shift(0, 0, 1, 1, 2), -13);
        due(x.shift(0, 0, 1, 0, 3), -13);
        due(x.shift(1, 0, 0, 0, 3), -13);
        due(x.shift(1, 1, 0, 0, 2), -13);
        due(x.shift(1, 0, 0, 3, 2), -13);
        due(x.shift(0, 4, 1, 0, 1), -13);
        due(x.shift(0, 0, 1, 2, 1), -13);
        due(x.shift(0, 5, 1, 0, 0), -13);
        due(x.shift(0, 0, 1, 3, 0), -13);
        due(x.shift(0, -1, 1, 0, 0), -13);
        due(x.shift(0, 0, 1, -1, 0), -13);
        due(x.shift(0, GREATEST, 1, 0, 1), -13);
        due(x.shift(0, 1, 1, 0, GREATEST), -13);
        due(x.shift(0, 0, 1, GREATEST, 1), -13);
        due(x.shift(0, LEAST, 1, LEAST, LEAST), -13);
        due(x.shift(0, GREATEST, 1, GREATEST, GREATEST), -13);
        rowIs(x, 0, 1, 2, 3, 4);
        rowIs(x, 1, 5, 6);
        due(x.shift(0, 4, 1, 2, 0), 0);
        due(x.shift(0, 2, 1, 0, 2), 2);
        rowIs(x, 1, 3, 4);
        due(x.shift(1, 0, 0, 2, 2), 2);
        due(x.shift(1, 1, 0, 3, 1), 1);
        rowIs(x, 0, 1, 2, 3, 4);
    }
}
