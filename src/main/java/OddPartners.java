import java.util.Arrays;

/** Partners in a house. The words in capitals are those of the document. */
public final class OddPartners {
    public static final int NONE = -1, BAD = -2, STATE = -3, FULL = -4;
    /** There is no such number. */
    public static final long NO = Long.MIN_VALUE;

    private static final int ABSENT = -5;
    private static final int NOTHING = -11, CAST = -12, PLACE = -13, SIZE = -14;
    private static final int HEAVY = 0, MOST = 1;
    private static final int ALL_PEOPLE = 7, ALL_SETS = 128;
    private static final int TOP_WEIGHT = 20, TOP_HALVES = 60, TOP_ODD_HALVES = 40;
    private static final int TOP_MENDS = 9, ODDS_WEIGHTS = 10;
    private static final int ISOLATE = 0, WARM = 1, DROP = 2, LEVEL = 3;
    private static final int ROW_ENDS = 100, TEXT_FAULT = -10;

    private final House house = new House();
    private final House kept = new House();
    private boolean isKept;
    private final Text text = new Text();
    private final Tapes tapes = new Tapes();
    // What is asked is worked out on these, so that no call makes objects.
    private final Net otherwise = new Net();
    private final Matching now = new Matching();
    private final Matching then = new Matching();
    private final Line line = new Line();
    private final Parting parting = new Parting();
    private final Proving proving = new Proving();

    public OddPartners() {
    }

    // ---- people, weights, pairs

    public int person() {
        if (house.net.people >= ALL_PEOPLE) {
            return FULL;
        }
        house.net.people++;
        return house.net.people - 1;
    }

    public int weigh(int i, int j, int w) {
        if (!house.net.areTwo(i, j)) {
            return NONE;
        }
        if (w < 0 || w > TOP_WEIGHT) {
            return BAD;
        }
        int before = house.net.weightOf(i, j);
        house.net.setWeight(i, j, w);
        if (w == 0 && house.mateOf(i) == j) {
            house.part(i);
        }
        return before;
    }

    public int of(int i, int j) {
        return house.net.areTwo(i, j) ? house.net.weightOf(i, j) : NONE;
    }

    public int pair(int i, int j) {
        if (!house.net.areTwo(i, j)) {
            return NONE;
        }
        if (!house.net.areLinked(i, j) || !house.isFree(i) || !house.isFree(j)) {
            return STATE;
        }
        house.join(i, j);
        return house.pairs();
    }

    public int alone(int person) {
        if (!house.net.has(person)) {
            return NONE;
        }
        int before = house.mateOf(person);
        house.part(person);
        return noneAsAbsent(before);
    }

    public int take(int rule) {
        if (!isRule(rule)) {
            return BAD;
        }
        now.find(house.net, rule);
        house.takeMates(now);
        return now.pairs;
    }

    public int mend(int n) {
        if (n < 0 || n > TOP_MENDS) {
            return BAD;
        }
        int times = 0;
        while (times < n && line.findWay(house)) {
            house.joinAlong(line);
            times++;
        }
        return times;
    }

    public int partner(int person) {
        return house.net.has(person) ? noneAsAbsent(house.mateOf(person)) : NONE;
    }

    public int feed(int sign) {
        if (sign < 0 || sign > 127) {
            return BAD;
        }
        return text.append(sign) ? text.size : FULL;
    }

    public int read() {
        int fault = text.findFault();
        text.size = 0;
        return fault < 0 ? doClauses() : TEXT_FAULT - fault;
    }

    private int doClauses() {
        int done = 0;
        for (int k = 0; k < text.clauses; k++) {
            if (doClause(text.clauseAt(k)) >= 0) {
                done++;
            }
        }
        return done;
    }

    private int doClause(Clause clause) {
        switch (clause.kind) {
            case 'p':
                return person();
            case 'w':
                return weigh(clause.i, clause.j, clause.number);
            case 'm':
                return pair(clause.i, clause.j);
            case 'h':
                return halves(clause.i, clause.number);
            default:
                return BAD;
        }
    }

    private static boolean isRule(int rule) {
        return rule == HEAVY || rule == MOST;
    }

    private static int noneAsAbsent(int mate) {
        return mate < 0 ? ABSENT : mate;
    }

    // ---- ways, flowers, the best

    public int way(int k) {
        if (!line.findWay(house)) {
            return ABSENT;
        }
        return k == -1 ? line.size : line.personAt(k);
    }

    public int flower(int what, int k) {
        if (what < 0 || what > 1) {
            return NONE;
        }
        if (!line.findFlower(house)) {
            return ABSENT;
        }
        return what == 0 ? line.stemAnswer(k) : line.ringAnswer(k);
    }

    public int shrunk() {
        if (!line.findFlower(house)) {
            return ABSENT;
        }
        otherwise.copyFrom(house.net);
        int base = line.personAt(line.base);
        for (int k = line.base + 1; k < line.size; k++) {
            otherwise.merge(line.personAt(k), base);
        }
        now.find(otherwise, MOST);
        return now.pairs;
    }

    public int best(int rule, int person) {
        if (!isRule(rule)) {
            return BAD;
        }
        if (!house.net.has(person)) {
            return NONE;
        }
        now.find(house.net, rule);
        return noneAsAbsent(now.mateOf(person));
    }

    public int told(int what) {
        switch (what) {
            case 0:
                return house.net.people;
            case 1:
                return house.net.linkedTwos();
            case 2:
                return house.pairs();
            case 3:
                return house.weightOfPairs();
            case 4:
                return house.net.people - 2 * house.pairs();
            case 5:
            case 6:
                now.find(house.net, HEAVY);
                return what == 5 ? now.weight : now.pairs;
            case 7:
            case 8:
                now.find(house.net, MOST);
                return what == 7 ? now.weight : now.pairs;
            case 9:
                return house.tightTwos();
            case 10:
                return house.sum();
            default:
                return NONE;
        }
    }

    public int parts(int what) {
        if (what < 0 || what > 4) {
            return NONE;
        }
        if (what >= 3) {
            parting.findBarrier(house.net);
            return what == 3 ? parting.barrier : parting.gain;
        }
        now.find(house.net, MOST);
        parting.sortPeople(house.net, now);
        if (what == 0) {
            return parting.over;
        }
        return what == 1 ? parting.edge : parting.rest;
    }

    public int loss(int person) {
        if (!house.net.has(person)) {
            return NONE;
        }
        int all = house.net.everybody();
        now.find(house.net, HEAVY);
        return now.valueAmong(all) - now.valueAmong(all & ~(1 << person));
    }

    // ---- halves, the proof

    public int halves(int person, int h) {
        if (!house.net.has(person)) {
            return NONE;
        }
        if (h < 0 || h > TOP_HALVES) {
            return BAD;
        }
        int before = house.halvesOf(person);
        house.setHalves(person, h);
        return before;
    }

    public int odd(int bits, int h) {
        if (bits == -1) {
            return house.oddSets.empty();
        }
        if (!house.net.isOddSet(bits) || h < 1 || h > TOP_ODD_HALVES) {
            return BAD;
        }
        return house.oddSets.append(bits, h);
    }

    public int bear() {
        house.oddSets.empty();
        for (int p = 0; p < house.net.people; p++) {
            house.setHalves(p, house.net.greatestWeightOf(p));
        }
        return house.sum();
    }

    public int proof(int k) {
        if (k < 0) {
            return NONE;
        }
        if (k > 2 || !proving.findFault(house)) {
            return ABSENT;
        }
        if (k == 0) {
            return proving.fault;
        }
        return k == 1 ? proving.cause : proving.deeper;
    }

    // ---- seen, odds

    public int see(int i, int j) {
        return tellTwo(house.seen, i, j);
    }

    public int fits(int i, int j, int what) {
        if (!house.net.areTwo(i, j) || what < 0 || what > 1) {
            return NONE;
        }
        int many = 0;
        int least = ABSENT;
        otherwise.copyFrom(house.net);
        for (int w = TOP_WEIGHT; w >= 0; w--) {
            otherwise.setWeight(i, j, w);
            then.find(otherwise, HEAVY);
            if (then.hasAll(house.seen)) {
                many++;
                least = w;
            }
        }
        return what == 0 ? many : least;
    }

    public long odds(int i, int j, int part) {
        if (!house.net.areTwo(i, j)) {
            return NO;
        }
        int many = 0;
        otherwise.copyFrom(house.net);
        for (int w = 0; w < ODDS_WEIGHTS; w++) {
            otherwise.setWeight(i, j, w);
            then.find(otherwise, HEAVY);
            if (then.mateOf(i) == j) {
                many++;
            }
        }
        return lowest(many, ODDS_WEIGHTS, part);
    }

    public long mean(int part) {
        return lowest(house.weightOfPairs(), house.pairs(), part);
    }

    /** Rows of two PEOPLE, for what is SEEN and for the BOOK. */
    private int tellTwo(Rows rows, int i, int j) {
        if (i == -1) {
            return rows.empty();
        }
        return house.net.areTwo(i, j) ? rows.append(i, j) : NONE;
    }

    private static long lowest(int above, int below, int part) {
        if (part < 0 || part > 1 || below < 1) {
            return NO;
        }
        int divisor = commonDivisor(above, below);
        if (divisor < 1) {
            return NO;
        }
        return part == 0 ? above / divisor : below / divisor;
    }

    private static int commonDivisor(int above, int below) {
        for (int d = below; d > 1; d--) {
            if (above % d == 0 && below % d == 0) {
                return d;
            }
        }
        return 1;
    }

    // ---- events, books

    public int event(int what, int n) {
        if (what == -1) {
            return house.events.empty();
        }
        if (what < ISOLATE || what > LEVEL) {
            return NONE;
        }
        if ((what == ISOLATE || what == WARM) && !house.net.has(n)) {
            return NONE;
        }
        if (what == DROP && (n < 0 || n > TOP_WEIGHT)) {
            return BAD;
        }
        return house.events.append(what, n);
    }

    public int after(int what) {
        if (what < 0 || what > 2) {
            return NONE;
        }
        otherwise.copyFrom(house.net);
        for (int k = 0; k < house.events.size; k++) {
            otherwise.befall(house.events.firstAt(k), house.events.secondAt(k));
        }
        then.find(otherwise, what == 1 ? MOST : HEAVY);
        if (what == 0) {
            return then.weight;
        }
        if (what == 1) {
            return then.pairs;
        }
        now.find(house.net, HEAVY);
        return then.unlike(now, house.net.people);
    }

    public int book(int i, int j) {
        return tellTwo(house.book, i, j);
    }

    public int looked() {
        for (int k = 0; k < house.book.size; k++) {
            if (house.mateOf(house.book.firstAt(k)) != house.book.secondAt(k)) {
                return k;
            }
        }
        return ABSENT;
    }

    // ---- judging, the image, tapes

    public int judge(int tape, int i) {
        if (!tapes.has(tape)) {
            return NONE;
        }
        if (tapes.holds(tape) && tapes.sortOf(tape) != Tapes.LONGS) {
            return CAST;
        }
        for (int p = 0; p < house.net.people; p++) {
            // Asked so, a place near the greatest int can't run over.
            if (i < 0 || i >= tapes.sizeOf(tape) - p) {
                return ROW_ENDS + p;
            }
            if (tapes.valueAt(tape, i + p) != house.mateOf(p)) {
                return p;
            }
        }
        return ABSENT;
    }

    public int image() {
        kept.copyFrom(house);
        isKept = true;
        return house.net.people;
    }

    public int undo() {
        if (!isKept) {
            return STATE;
        }
        house.copyFrom(kept);
        return house.net.people;
    }

    public int count(int what) {
        switch (what) {
            case 0:
                return house.oddSets.size;
            case 1:
                return house.seen.size;
            case 2:
                return house.events.size;
            case 3:
                return house.book.size;
            case 4:
                return text.size;
            default:
                return BAD;
        }
    }

    public int tape(int tape, int sort, int n) {
        if (!tapes.has(tape)) {
            return NONE;
        }
        if (sort < Tapes.EMPTY || sort > Tapes.BOOLEANS) {
            return BAD;
        }
        if (sort == Tapes.EMPTY) {
            tapes.renew(tape, Tapes.EMPTY, 0);
            return 1;
        }
        if (n > Tapes.TOP_SIZE) {
            return BAD;
        }
        if (n < 0) {
            return SIZE;
        }
        tapes.renew(tape, sort, n);
        return 1;
    }

    public int item(int tape, int i, long v) {
        if (!tapes.has(tape)) {
            return NONE;
        }
        if (!tapes.holds(tape)) {
            return NOTHING;
        }
        if (i < 0 || i >= tapes.sizeOf(tape)) {
            return PLACE;
        }
        tapes.setValue(tape, i, v);
        return 1;
    }

    public long peek(int tape, int i) {
        // A TAPE that is none, or holds nothing, has no places.
        if (i < 0 || i >= tapes.sizeOf(tape)) {
            return NO;
        }
        return tapes.valueAt(tape, i);
    }

    public int shift(int tape, int i, int other, int j, int n) {
        if (!tapes.has(tape) || !tapes.has(other)) {
            return NONE;
        }
        if (!tapes.holds(tape) || !tapes.holds(other)) {
            return NOTHING;
        }
        if (tapes.sortOf(tape) != tapes.sortOf(other)) {
            return CAST;
        }
        if (!tapes.hasRun(tape, i, n) || !tapes.hasRun(other, j, n)) {
            return PLACE;
        }
        tapes.move(tape, i, other, j, n);
        return n;
    }

    /** PEOPLE and the WEIGHT of each two. */
    private static final class Net {
        int people;
        private final int[] weights = new int[ALL_PEOPLE * ALL_PEOPLE];

        boolean has(int p) {
            return p >= 0 && p < people && p < ALL_PEOPLE;
        }

        boolean areTwo(int i, int j) {
            return has(i) && has(j) && i != j;
        }

        int weightOf(int i, int j) {
            boolean isThere = i >= 0 && i < ALL_PEOPLE && j >= 0 && j < ALL_PEOPLE;
            return isThere ? weights[i * ALL_PEOPLE + j] : 0;
        }

        boolean areLinked(int i, int j) {
            return weightOf(i, j) > 0;
        }

        void setWeight(int i, int j, int w) {
            if (areTwo(i, j)) {
                weights[i * ALL_PEOPLE + j] = w;
                weights[j * ALL_PEOPLE + i] = w;
            }
        }

        int everybody() {
            return (1 << people) - 1;
        }

        boolean isOddSet(int bits) {
            int many = Integer.bitCount(bits);
            return (bits & ~everybody()) == 0 && many >= 3 && many % 2 == 1;
        }

        int linkedTwos() {
            int many = 0;
            for (int i = 0; i < people; i++) {
                many += Integer.bitCount(linkedTo(i));
            }
            return many / 2;
        }

        /** BITS of those to whom one is LINKED. */
        int linkedTo(int p) {
            int bits = 0;
            for (int q = 0; q < people; q++) {
                if (areLinked(p, q)) {
                    bits |= 1 << q;
                }
            }
            return bits;
        }

        int greatestWeightOf(int p) {
            int greatest = 0;
            for (int q = 0; q < people; q++) {
                greatest = Math.max(greatest, weightOf(p, q));
            }
            return greatest;
        }

        /** All LINKS of p become those of into; p has none then. */
        void merge(int p, int into) {
            for (int q = 0; q < people; q++) {
                if (areLinked(p, q)) {
                    setWeight(into, q, 1);
                    setWeight(p, q, 0);
                }
            }
        }

        void befall(int what, int n) {
            for (int i = 0; i < people; i++) {
                for (int j = i + 1; j < people; j++) {
                    setWeight(i, j, weightBehind(what, n, i, j));
                }
            }
        }

        private int weightBehind(int what, int n, int i, int j) {
            int w = weightOf(i, j);
            if (w == 0) {
                return 0;
            }
            boolean isOfThem = i == n || j == n;
            switch (what) {
                case ISOLATE:
                    return isOfThem ? 0 : w;
                case WARM:
                    return isOfThem ? Math.min(w + 1, TOP_WEIGHT) : w;
                case DROP:
                    return w < n ? 0 : w;
                case LEVEL:
                    return 1;
                default:
                    return w;
            }
        }

        void copyFrom(Net other) {
            people = other.people;
            System.arraycopy(other.weights, 0, weights, 0, ALL_PEOPLE * ALL_PEOPLE);
        }
    }

    /** Rows of two numbers that are told by hand, as many as the document allows. */
    private static final class Rows {
        int size;
        private final int[] firsts;
        private final int[] seconds;

        Rows(int limit) {
            int room = Math.max(limit, 0);
            firsts = new int[room];
            seconds = new int[room];
        }

        int empty() {
            size = 0;
            return 0;
        }

        int append(int first, int second) {
            if (size < 0 || size >= firsts.length || size >= seconds.length) {
                return FULL;
            }
            firsts[size] = first;
            seconds[size] = second;
            size++;
            return size;
        }

        int firstAt(int k) {
            return k >= 0 && k < firsts.length ? firsts[k] : -1;
        }

        int secondAt(int k) {
            return k >= 0 && k < seconds.length ? seconds[k] : -1;
        }

        void copyFrom(Rows other) {
            empty();
            for (int k = 0; k < other.size; k++) {
                append(other.firstAt(k), other.secondAt(k));
            }
        }
    }

    /** All that THE IMAGE keeps. */
    private static final class House {
        final Net net = new Net();
        private final int[] mates = new int[ALL_PEOPLE];
        private final int[] halves = new int[ALL_PEOPLE];
        final Rows oddSets = new Rows(3);
        final Rows seen = new Rows(5);
        final Rows events = new Rows(8);
        final Rows book = new Rows(8);

        House() {
            Arrays.fill(mates, -1);
        }

        int mateOf(int p) {
            return p >= 0 && p < ALL_PEOPLE ? mates[p] : -1;
        }

        boolean isFree(int p) {
            return mateOf(p) < 0;
        }

        void join(int i, int j) {
            if (net.areTwo(i, j)) {
                mates[i] = j;
                mates[j] = i;
            }
        }

        void part(int p) {
            int mate = mateOf(p);
            if (net.has(p) && net.has(mate)) {
                mates[p] = -1;
                mates[mate] = -1;
            }
        }

        void takeMates(Matching matching) {
            for (int p = 0; p < ALL_PEOPLE; p++) {
                mates[p] = matching.mateOf(p);
            }
        }

        /** Each one of a WAY has a new partner, so its old PAIRS are gone by that. */
        void joinAlong(Line way) {
            for (int k = 0; k + 1 < way.size; k += 2) {
                join(way.personAt(k), way.personAt(k + 1));
            }
        }

        int pairs() {
            return pairsAmong(net.everybody());
        }

        int pairsAmong(int bits) {
            int pairs = 0;
            for (int p = 0; p < net.people; p++) {
                int mate = mateOf(p);
                if (mate > p && isIn(p, bits) && isIn(mate, bits)) {
                    pairs++;
                }
            }
            return pairs;
        }

        static boolean isIn(int p, int bits) {
            return (bits >> p & 1) != 0;
        }

        int weightOfPairs() {
            int weight = 0;
            for (int p = 0; p < net.people; p++) {
                int mate = mateOf(p);
                if (mate > p) {
                    weight += net.weightOf(p, mate);
                }
            }
            return weight;
        }

        int halvesOf(int p) {
            return net.has(p) ? halves[p] : 0;
        }

        void setHalves(int p, int h) {
            if (net.has(p)) {
                halves[p] = h;
            }
        }

        /** What two HAVE above twice their WEIGHT; below 0, if they HAVE less. */
        int excess(int i, int j) {
            int have = halvesOf(i) + halvesOf(j);
            for (int k = 0; k < oddSets.size; k++) {
                int bits = oddSets.firstAt(k);
                if (isIn(i, bits) && isIn(j, bits)) {
                    have += oddSets.secondAt(k);
                }
            }
            return have - 2 * net.weightOf(i, j);
        }

        int tightTwos() {
            int many = 0;
            for (int i = 0; i < net.people; i++) {
                for (int j = i + 1; j < net.people; j++) {
                    if (net.areLinked(i, j) && excess(i, j) == 0) {
                        many++;
                    }
                }
            }
            return many;
        }

        int sum() {
            int sum = 0;
            for (int p = 0; p < net.people; p++) {
                sum += halvesOf(p);
            }
            for (int k = 0; k < oddSets.size; k++) {
                sum += oddSets.secondAt(k) * mostPairsOf(oddSets.firstAt(k));
            }
            return sum;
        }

        /** Half of an ODD SET's PEOPLE but one. */
        static int mostPairsOf(int bits) {
            return (Integer.bitCount(bits) - 1) / 2;
        }

        void copyFrom(House other) {
            net.copyFrom(other.net);
            System.arraycopy(other.mates, 0, mates, 0, ALL_PEOPLE);
            System.arraycopy(other.halves, 0, halves, 0, ALL_PEOPLE);
            oddSets.copyFrom(other.oddSets);
            seen.copyFrom(other.seen);
            events.copyFrom(other.events);
            book.copyFrom(other.book);
        }
    }

    /** BEST of a net by a RULE. */
    private static final class Matching {
        // One PAIR more outdoes any WEIGHT: three PAIRS weigh 60 at most.
        private static final int WORTH_OF_A_PAIR = 100;

        int weight;
        int pairs;
        private int worth;
        private final int[] mates = new int[ALL_PEOPLE];
        // By BITS of some of the PEOPLE: the greatest value that PAIRS among them have.
        private final int[] values = new int[ALL_SETS];

        void find(Net net, int rule) {
            worth = rule == MOST ? WORTH_OF_A_PAIR : 0;
            fillValues(net);
            choose(net);
        }

        private void fillValues(Net net) {
            int last = Math.min(net.everybody(), ALL_SETS - 1);
            values[0] = 0;
            for (int bits = 1; bits <= last; bits++) {
                int rest = bits & bits - 1;
                int least = Integer.bitCount((bits ^ rest) - 1);
                int value = valueAmong(rest);
                for (int q = least + 1; q < ALL_PEOPLE; q++) {
                    if (House.isIn(q, rest)) {
                        value = Math.max(value, valueWith(net, least, q, rest));
                    }
                }
                values[bits] = value;
            }
        }

        /** The greatest value, if p and q are a PAIR and others of rest are as well. */
        private int valueWith(Net net, int p, int q, int rest) {
            int w = net.weightOf(p, q);
            return w > 0 ? worth + w + valueAmong(rest & ~(1 << q)) : 0;
        }

        int valueAmong(int bits) {
            return bits >= 0 && bits < ALL_SETS ? values[bits] : 0;
        }

        /** By MOST alone: how many PAIRS there can be among some of the PEOPLE. */
        int mostPairsAmong(int bits) {
            return valueAmong(bits) / WORTH_OF_A_PAIR;
        }

        /** The first PERSON has the least partner by which all is still BEST, and so on. */
        private void choose(Net net) {
            Arrays.fill(mates, -1);
            weight = 0;
            pairs = 0;
            int left = net.everybody();
            for (int p = 0; p < ALL_PEOPLE; p++) {
                if (House.isIn(p, left)) {
                    int rest = left & ~(1 << p);
                    int q = leastPartner(net, p, rest, valueAmong(left));
                    left = q < 0 ? rest : rest & ~(1 << q);
                    if (q >= 0 && q < ALL_PEOPLE) {
                        mates[p] = q;
                        mates[q] = p;
                        pairs++;
                        weight += net.weightOf(p, q);
                    }
                }
            }
        }

        private int leastPartner(Net net, int p, int rest, int value) {
            for (int q = p + 1; q < ALL_PEOPLE; q++) {
                if (House.isIn(q, rest) && net.areLinked(p, q) && valueWith(net, p, q, rest) == value) {
                    return q;
                }
            }
            return -1;
        }

        int mateOf(int p) {
            return p >= 0 && p < ALL_PEOPLE ? mates[p] : -1;
        }

        boolean hasAll(Rows twos) {
            for (int k = 0; k < twos.size; k++) {
                if (mateOf(twos.firstAt(k)) != twos.secondAt(k)) {
                    return false;
                }
            }
            return true;
        }

        int unlike(Matching other, int people) {
            int many = 0;
            for (int p = 0; p < people; p++) {
                if (mateOf(p) != other.mateOf(p)) {
                    many++;
                }
            }
            return many;
        }
    }

    /**
     * THE WAY or THE FLOWER. A STEM and its RING behind it, the BASE told once, go by the
     * same turns as a WAY: only what the last one must be is otherwise.
     */
    private static final class Line {
        private static final int NO_BASE = -1;

        int size;
        int base;
        private final int[] people = new int[ALL_PEOPLE];

        boolean findWay(House house) {
            for (int length = 2; length <= ALL_PEOPLE; length += 2) {
                if (seek(house, length, NO_BASE)) {
                    return true;
                }
            }
            return false;
        }

        boolean findFlower(House house) {
            for (int length = 3; length <= ALL_PEOPLE; length += 2) {
                for (int place = 0; place + 2 < length; place += 2) {
                    if (seek(house, length, place)) {
                        return true;
                    }
                }
            }
            return false;
        }

        private boolean seek(House house, int length, int place) {
            size = length;
            base = place;
            return isCompleted(this, house, 0, 0);
        }

        /** PEOPLE are tried from the least on, so the first line that fits is the least. */
        private static boolean isCompleted(Line line, House house, int at, int used) {
            if (at >= line.size || at >= ALL_PEOPLE) {
                return line.ends(house);
            }
            for (int p = 0; p < house.net.people; p++) {
                if (!House.isIn(p, used) && line.mayStand(house, at, p)) {
                    line.people[at] = p;
                    if (isCompleted(line, house, at + 1, used | 1 << p)) {
                        return true;
                    }
                }
            }
            return false;
        }

        private boolean mayStand(House house, int at, int p) {
            if (at == 0) {
                return house.isFree(p);
            }
            int before = personAt(at - 1);
            return at % 2 == 1 ? house.net.areLinked(before, p) : house.mateOf(before) == p;
        }

        private boolean ends(House house) {
            int last = personAt(size - 1);
            return base == NO_BASE ? house.isFree(last) : house.net.areLinked(last, personAt(base));
        }

        /** The one at a place, or NONE. */
        int personAt(int k) {
            return k >= 0 && k < size && k < ALL_PEOPLE ? people[k] : NONE;
        }

        int stemAnswer(int k) {
            if (k == -1) {
                return base + 1;
            }
            return k <= base ? personAt(k) : NONE;
        }

        int ringAnswer(int k) {
            if (k == -1) {
                return size - base;
            }
            return k >= 0 && k < size - base ? personAt(base + k) : NONE;
        }
    }

    /** Who can be left over, and the BARRIER. */
    private static final class Parting {
        int over;
        int edge;
        int rest;
        int barrier;
        int gain;
        private final int[] linked = new int[ALL_PEOPLE];

        void sortPeople(Net net, Matching most) {
            int all = net.everybody();
            over = 0;
            for (int p = 0; p < net.people; p++) {
                if (most.mostPairsAmong(all & ~(1 << p)) == most.pairs) {
                    over |= 1 << p;
                }
            }
            edge = 0;
            for (int p = 0; p < net.people; p++) {
                if (!House.isIn(p, over) && (net.linkedTo(p) & over) != 0) {
                    edge |= 1 << p;
                }
            }
            rest = all & ~over & ~edge;
        }

        void findBarrier(Net net) {
            int all = net.everybody();
            for (int p = 0; p < ALL_PEOPLE; p++) {
                linked[p] = net.linkedTo(p);
            }
            barrier = 0;
            gain = oddParts(all);
            for (int bits = 1; bits <= all; bits++) {
                int many = Integer.bitCount(bits);
                int gained = oddParts(all & ~bits) - many;
                if (gained > gain || gained == gain && many < Integer.bitCount(barrier)) {
                    barrier = bits;
                    gain = gained;
                }
            }
        }

        private int oddParts(int bits) {
            int odd = 0;
            int left = bits;
            for (int p = 0; p < ALL_PEOPLE; p++) {
                if (House.isIn(p, left)) {
                    int part = partOf(p, left);
                    odd += Integer.bitCount(part) % 2;
                    left &= ~part;
                }
            }
            return odd;
        }

        private int partOf(int person, int bits) {
            int part = 1 << person;
            int ahead = part;
            for (int step = 0; step < ALL_PEOPLE && ahead != 0; step++) {
                int p = Integer.bitCount((ahead & -ahead) - 1);
                int found = p < ALL_PEOPLE ? linked[p] & bits & ~part : 0;
                part |= found;
                ahead = ahead & ahead - 1 | found;
            }
            return part;
        }
    }

    /** THE PROOF's FAULT with its CAUSE and the CAUSE of that. */
    private static final class Proving {
        int fault;
        int cause;
        int deeper;

        boolean findFault(House house) {
            return lacksHalves(house) || lacksPairs(house) || hasFreeWithHalves(house) || hasLoosePair(house);
        }

        private boolean faultIs(int number, int why, int whyThat) {
            fault = number;
            cause = why;
            deeper = whyThat;
            return true;
        }

        private boolean lacksHalves(House house) {
            for (int i = 0; i < house.net.people; i++) {
                for (int j = i + 1; j < house.net.people; j++) {
                    int excess = house.excess(i, j);
                    if (house.net.areLinked(i, j) && excess < 0) {
                        return faultIs(1, 10 * i + j, -excess);
                    }
                }
            }
            return false;
        }

        private boolean lacksPairs(House house) {
            for (int k = 0; k < house.oddSets.size; k++) {
                int bits = house.oddSets.firstAt(k);
                int pairs = house.pairsAmong(bits);
                if (pairs < House.mostPairsOf(bits)) {
                    return faultIs(2, bits, pairs);
                }
            }
            return false;
        }

        private boolean hasFreeWithHalves(House house) {
            for (int p = 0; p < house.net.people; p++) {
                if (house.isFree(p) && house.halvesOf(p) > 0) {
                    return faultIs(3, p, house.halvesOf(p));
                }
            }
            return false;
        }

        private boolean hasLoosePair(House house) {
            for (int p = 0; p < house.net.people; p++) {
                int mate = house.mateOf(p);
                if (mate > p && house.excess(p, mate) != 0) {
                    return faultIs(4, 10 * p + mate, house.excess(p, mate));
                }
            }
            return false;
        }
    }

    /** One CLAUSE as THE TEXT tells it. */
    private static final class Clause {
        int kind;
        int i;
        int j;
        int number;
    }

    /** THE TEXT and, behind findFault, its CLAUSES. */
    private static final class Text {
        private static final int ALL_BYTES = 100, ALL_CLAUSES = 12, NO_FAULT = -1, NO_BYTE = -1;

        int size;
        int clauses;
        private int at;
        private final byte[] bytes = new byte[ALL_BYTES];
        private final Clause[] list = new Clause[ALL_CLAUSES];
        private final Clause spare = new Clause();

        Text() {
            for (int k = 0; k < ALL_CLAUSES; k++) {
                list[k] = new Clause();
            }
        }

        boolean append(int sign) {
            if (size < 0 || size >= ALL_BYTES) {
                return false;
            }
            bytes[size] = (byte) sign;
            size++;
            return true;
        }

        Clause clauseAt(int k) {
            Clause clause = k >= 0 && k < ALL_CLAUSES ? list[k] : spare;
            return clause == null ? spare : clause;
        }

        int findFault() {
            at = 0;
            clauses = 0;
            for (int k = 0; k < ALL_CLAUSES; k++) {
                if (!isClause(clauseAt(k))) {
                    return at;
                }
                clauses = k + 1;
                if (at >= size) {
                    return NO_FAULT;
                }
                if (ahead() != ';' || clauses == ALL_CLAUSES) {
                    return at;
                }
                at++;
            }
            return at;
        }

        private int ahead() {
            return at >= 0 && at < size && at < ALL_BYTES ? bytes[at] : NO_BYTE;
        }

        /** Whether a CLAUSE stands here; if not, the first wrong byte is ahead. */
        private boolean isClause(Clause clause) {
            int kind = ahead();
            if (kind != 'p' && kind != 'w' && kind != 'm' && kind != 'h') {
                return false;
            }
            at++;
            clause.kind = kind;
            if (kind == 'p') {
                return true;
            }
            clause.i = nextDigit();
            if (clause.i < 0) {
                return false;
            }
            if (kind != 'h') {
                clause.j = nextDigit();
                if (clause.j < 0) {
                    return false;
                }
            }
            if (kind == 'm') {
                return true;
            }
            clause.number = nextNumber();
            return clause.number >= 0;
        }

        private int nextDigit() {
            int sign = ahead();
            if (sign < '0' || sign > '9') {
                return -1;
            }
            at++;
            return sign - '0';
        }

        private int nextNumber() {
            int first = nextDigit();
            int second = first < 0 ? -1 : nextDigit();
            return second < 0 ? first : 10 * first + second;
        }
    }

    /** The rows of all TAPES, each item as a long. */
    private static final class Tapes {
        static final int EMPTY = -1, BYTES = 0, SHORTS = 1, INTS = 2, LONGS = 3, BOOLEANS = 4;
        static final int ALL_TAPES = 6, TOP_SIZE = 60;

        private final int[] sorts = new int[ALL_TAPES];
        private final int[] sizes = new int[ALL_TAPES];
        private final long[] items = new long[ALL_TAPES * TOP_SIZE];

        Tapes() {
            Arrays.fill(sorts, EMPTY);
        }

        boolean has(int tape) {
            return tape >= 0 && tape < ALL_TAPES;
        }

        int sortOf(int tape) {
            return has(tape) ? sorts[tape] : EMPTY;
        }

        boolean holds(int tape) {
            return sortOf(tape) != EMPTY;
        }

        int sizeOf(int tape) {
            return has(tape) ? sizes[tape] : 0;
        }

        boolean hasRun(int tape, int i, int n) {
            return n >= 0 && i >= 0 && n <= sizeOf(tape) && i <= sizeOf(tape) - n;
        }

        void renew(int tape, int sort, int n) {
            if (has(tape) && n >= 0 && n <= TOP_SIZE) {
                sorts[tape] = sort;
                sizes[tape] = n;
                Arrays.fill(items, tape * TOP_SIZE, tape * TOP_SIZE + n, 0L);
            }
        }

        long valueAt(int tape, int i) {
            return hasRun(tape, i, 1) ? items[tape * TOP_SIZE + i] : 0L;
        }

        void setValue(int tape, int i, long v) {
            if (hasRun(tape, i, 1)) {
                items[tape * TOP_SIZE + i] = asItem(sortOf(tape), v);
            }
        }

        private static long asItem(int sort, long v) {
            switch (sort) {
                case BYTES:
                    return (byte) v;
                case SHORTS:
                    return (short) v;
                case INTS:
                    return (int) v;
                case BOOLEANS:
                    return v == 0 ? 0L : 1L;
                default:
                    return v;
            }
        }

        void move(int tape, int i, int other, int j, int n) {
            if (hasRun(tape, i, n) && hasRun(other, j, n)) {
                System.arraycopy(items, tape * TOP_SIZE + i, items, other * TOP_SIZE + j, n);
            }
        }
    }
}
