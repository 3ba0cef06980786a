import java.util.Random;
import java.util.function.Consumer;

/**
 * What the document is about, clause by clause: what some calls answer against what others do, and
 * what is known of pairs in every net, so that no answer is told here beforehand.
 */
final class AboutBounds extends Bounds {
    private static final int HOUSES = 300;

    @Override
    void run() {
        bestOfTwoRules();
        waysMend();
        ringsOnAStem();
        shrunkNets();
        leftOver();
        oddParts();
        proofs();
        textsAndHands();
        asSeen();
        oddsAndMeans();
        events();
        booksAndJudging();
        images();
    }

    /** A house of some PEOPLE, WEIGHTS and PAIRS, the same for the same number. */
    private static OddPartners some(int number) {
        Random random = new Random(number);
        OddPartners x = new OddPartners();
        int n = number < 8 ? number : 2 + random.nextInt(6);
        come(x, n);
        int links = random.nextInt(3 + n * (n - 1) / 2);
        for (int k = 0; k < links; k++) {
            x.weigh(random.nextInt(n), random.nextInt(n), random.nextInt(random.nextBoolean() ? 4 : 21));
        }
        for (int k = random.nextInt(6); k > 0; k--) {
            x.pair(random.nextInt(Math.max(n, 1)), random.nextInt(Math.max(n, 1)));
        }
        return x;
    }

    private static void inHouses(Consumer<OddPartners> look) {
        for (int number = 0; number < HOUSES; number++) {
            at(", house " + number);
            look.accept(some(number));
        }
    }

    private static int partnerWeight(OddPartners x) {
        int twice = 0;
        for (int p = 0; p < x.told(0); p++) {
            twice += x.partner(p) < 0 ? 0 : x.of(p, x.partner(p));
        }
        return twice / 2;
    }

    private static void bestOfTwoRules() {
        of("What it is", "Partners in a house: people with weights for each two, pairs made by hand or as the best of "
                + "two rules tell,");
        inHouses(x -> {
            due(x.told(3), partnerWeight(x));
            due(x.told(3) <= x.told(5) && x.told(7) <= x.told(5) ? 1 : 0, 1);
            due(x.told(2) <= x.told(8) && x.told(6) <= x.told(8) ? 1 : 0, 1);
            for (int rule = 0; rule < 2; rule++) {
                int[] best = new int[x.told(0)];
                for (int p = 0; p < best.length; p++) {
                    best[p] = x.best(rule, p);
                }
                due(x.take(rule), x.told(6 + 2 * rule));
                due(x.told(3), x.told(5 + 2 * rule));
                for (int p = 0; p < best.length; p++) {
                    due(x.partner(p), best[p]);
                }
            }
        });
    }

    private static void waysMend() {
        of("What it is", "ways by which pairs are mended,");
        // there is a WAY until there are as many PAIRS as can be, and each brings one more
        inHouses(x -> {
            int most = x.told(8);
            for (int pairs = x.told(2) + 1; pairs <= most; pairs++) {
                int[] way = new int[Math.max(x.way(-1), 0)];
                due(way.length > 0 && way.length % 2 == 0 ? 1 : 0, 1);
                for (int k = 0; k < way.length; k++) {
                    way[k] = x.way(k);
                }
                due(x.mend(1), 1);
                due(x.told(2), pairs);
                for (int k = 0; k < way.length; k++) {
                    due(x.partner(way[k]), way[k ^ 1]);
                }
            }
            due(x.way(-1), -5);
            due(x.mend(9), 0);
        });
        inHouses(x -> {
            int lacking = x.told(8) - x.told(2);
            due(x.mend(9), lacking);
        });
    }

    private static void ringsOnAStem() {
        of("What it is", "odd rings that hang on a stem,");
        int[] flowers = {0};
        inHouses(x -> {
            int stem = x.flower(0, -1);
            int ring = x.flower(1, -1);
            if (stem < 0) {
                due(ring, -5);
                return;
            }
            flowers[0]++;
            due(stem % 2 + ring % 2 + (ring >= 3 ? 1 : 0), 3);
            due(x.partner(x.flower(0, 0)), -5);
            due(x.flower(1, 0), x.flower(0, stem - 1));
            for (int k = 0; k + 1 < stem; k++) {
                due(x.of(x.flower(0, k), x.flower(0, k + 1)) > 0 ? 1 : 0, 1);
                due(x.partner(x.flower(0, k)) == x.flower(0, k + 1) ? 1 : 0, k % 2);
            }
            int last = x.flower(1, ring - 1);
            for (int k = 0; k < ring; k++) {
                due(x.of(last, x.flower(1, k)) > 0 ? 1 : 0, 1);
                due(x.partner(last) == x.flower(1, k) ? 1 : 0, k > 0 && k % 2 == 0 ? 1 : 0);
                last = x.flower(1, k);
            }
        });
        due(flowers[0] > HOUSES / 10 ? 1 : 0, 1);
    }

    private static void shrunkNets() {
        of("What it is", "nets with a ring shrunk to one,");
        // PAIRS are as many as can be just if those out of the shrunk RING are so in the shrunk net
        inHouses(x -> {
            if (x.flower(1, -1) < 0) {
                due(x.shrunk(), -5);
                return;
            }
            int out = x.told(2) - (x.flower(1, -1) - 1) / 2;
            due(x.shrunk() == out ? 1 : 0, x.told(2) == x.told(8) ? 1 : 0);
            due(x.shrunk() >= out ? 1 : 0, 1);
        });
    }

    private static void leftOver() {
        of("What it is", "who can be left over,");
        inHouses(x -> {
            int over = x.parts(0);
            due(over == 0 ? 1 : 0, x.told(0) == 2 * x.told(8) ? 1 : 0);
            due(over + x.parts(1) + x.parts(2), (1 << x.told(0)) - 1);
            x.take(1);
            for (int p = 0; p < x.told(0); p++) {
                due(x.partner(p) >= 0 || (over >> p & 1) == 1 ? 1 : 0, 1);
                due(leftOverIs(x, p), over >> p & 1);
            }
        });
    }

    /** Whether there are as many PAIRS as before when a PERSON is LINKED to nobody. */
    private static int leftOverIs(OddPartners x, int p) {
        x.event(-1, 0);
        x.event(0, p);
        return x.after(1) == x.told(8) ? 1 : 0;
    }

    private static void oddParts() {
        of("What it is", "sets that part the rest into odd parts,");
        // the greatest GAIN is how many are left over by as many PAIRS as can be, and EDGE has it too
        inHouses(x -> {
            due(x.parts(4), x.told(0) - 2 * x.told(8));
            int[] linked = linked(x);
            due(gain(linked, x.parts(3)), x.parts(4));
            due(gain(linked, x.parts(1)), x.parts(4));
            due(Integer.bitCount(x.parts(3)) <= Integer.bitCount(x.parts(1)) ? 1 : 0, 1);
        });
    }

    /** Of each PERSON the BITS of those to whom that one is LINKED. */
    private static int[] linked(OddPartners x) {
        int[] linked = new int[x.told(0)];
        for (int p = 0; p < linked.length; p++) {
            for (int q = 0; q < linked.length; q++) {
                linked[p] |= x.of(p, q) > 0 ? 1 << q : 0;
            }
        }
        return linked;
    }

    private static int gain(int[] linked, int out) {
        int odd = 0;
        int left = (1 << linked.length) - 1 & ~out;
        for (int p = 0; p < linked.length; p++) {
            int part = left & 1 << p;
            for (int times = 0; times < linked.length; times++) {
                for (int q = 0; q < linked.length; q++) {
                    part |= (part >> q & 1) == 1 ? linked[q] & left : 0;
                }
            }
            odd += Integer.bitCount(part) % 2;
            left &= ~part;
        }
        return odd - Integer.bitCount(out);
    }

    private static void proofs() {
        of("What it is", "halves and odd sets told by hand that prove that no pairs weigh more, or where they don't and why;");
        // three PEOPLE: for the heaviest PAIRS some HALVES prove it, for others none
        for (int weights = 0; weights < 64; weights++) {
            for (int two = 0; two < 4; two++) {
                at(", weights " + weights + ", two " + two);
                OddPartners x = three(weights, two);
                boolean isHeaviest = x.told(3) == x.told(5);
                due(proofsOf(weights, two) > 0 ? 1 : 0, isHeaviest ? 1 : 0);
            }
        }
    }

    /** WEIGHTS 0 .. 3 of three PEOPLE; 0 and 1 are a PAIR by two 0, 0 and 2 by 1, 1 and 2 by 2. */
    private static OddPartners three(int weights, int two) {
        OddPartners x = house(3, 100 + weights % 4, 200 + weights / 4 % 4, 1200 + weights / 16);
        x.pair(two == 2 ? 1 : 0, two == 0 ? 1 : two == 3 ? 0 : 2);
        return x;
    }

    private static int proofsOf(int weights, int two) {
        int many = 0;
        for (int h = 0; h < 343; h++) {
            OddPartners x = three(weights, two);
            x.halves(0, h % 7);
            x.halves(1, h / 7 % 7);
            x.halves(2, h / 49);
            for (int odd = 0; odd <= 6; odd++) {
                x.odd(-1, 0);
                x.odd(7, odd);
                boolean isProof = x.proof(0) == -5;
                if (isProof) {
                    many++;
                    due(x.told(3), x.told(5));
                    due(x.told(10), 2 * x.told(5));
                }
            }
        }
        return many;
    }

    private static void textsAndHands() {
        of("What it is", "set-ups read from texts,");
        OddPartners x = new OddPartners();
        OddPartners y = new OddPartners();
        due(read(x, "p;p;p;w019;w127;m02;m12;h060"), 7);
        come(y, 3);
        y.weigh(0, 1, 9);
        y.weigh(1, 2, 7);
        y.pair(0, 2);
        y.pair(1, 2);
        y.halves(0, 60);
        due(Trace.of(x).equals(Trace.of(y)) ? 1 : 0, 1);
    }

    private static void asSeen() {
        of("What it is", "weights by which it goes as seen,");
        inHouses(x -> {
            int n = x.told(0);
            int[] seen = n < 2 ? new int[0] : n < 4 ? new int[] {1, 0} : new int[] {0, x.told(1) % 2 + 1, 3, n - 1};
            for (int k = 0; k < seen.length; k += 2) {
                // one twice isn't two: it doesn't come
                seen[k + 1] = seen[k + 1] == seen[k] ? 2 - x.told(1) % 2 : seen[k + 1];
                due(x.see(seen[k], seen[k + 1]), k / 2 + 1);
            }
            for (int j = 1; j < Math.min(n, 4); j++) {
                int many = x.fits(0, j, 0);
                int least = x.fits(0, j, 1);
                int before = x.of(0, j);
                due(many, fitting(x, j, seen, least));
                x.weigh(0, j, before);
            }
        });
    }

    /** How many WEIGHTS of 0 and j bring what is SEEN, each tried; the least is looked at as well. */
    private static int fitting(OddPartners x, int j, int[] seen, int least) {
        int many = 0;
        int first = -5;
        for (int w = 20; w >= 0; w--) {
            x.weigh(0, j, w);
            boolean fits = true;
            for (int k = 0; k < seen.length; k += 2) {
                fits &= x.best(0, seen[k]) == seen[k + 1];
            }
            many += fits ? 1 : 0;
            first = fits ? w : first;
        }
        due(least, first);
        return many;
    }

    private static void oddsAndMeans() {
        of("What it is", "odds, means,");
        inHouses(x -> {
            if (x.told(2) > 0) {
                due(x.mean(0) * x.told(2), x.mean(1) * x.told(3));
            } else {
                due(x.mean(0), NO);
            }
            if (x.told(0) < 2) {
                due(x.odds(0, 1, 0), NO);
                return;
            }
            int j = x.told(0) - 1;
            long above = x.odds(0, j, 0);
            long below = x.odds(0, j, 1);
            int many = 0;
            for (int w = 0; w <= 9; w++) {
                x.weigh(0, j, w);
                many += x.best(0, 0) == j ? 1 : 0;
            }
            due(above * 10, many * below);
            due(java.math.BigInteger.valueOf(above).gcd(java.math.BigInteger.valueOf(below)).longValue(), 1);
        });
    }

    private static void events() {
        of("What it is", "events,");
        for (int number = 0; number < HOUSES; number++) {
            at(", house " + number);
            OddPartners asked = some(number);
            OddPartners done = some(number);
            Random random = new Random(-number);
            int[] before = bestOf(done);
            for (int k = random.nextInt(6); k > 0; k--) {
                int what = random.nextInt(4);
                int n = what == 2 ? random.nextInt(9) : random.nextInt(7);
                if (asked.event(what, n) > 0) {
                    happens(done, what, n);
                }
            }
            due(asked.after(0), done.told(5));
            due(asked.after(1), done.told(8));
            int[] then = bestOf(done);
            int others = 0;
            for (int p = 0; p < then.length; p++) {
                others += then[p] == before[p] ? 0 : 1;
            }
            due(asked.after(2), others);
        }
    }

    private static int[] bestOf(OddPartners x) {
        int[] best = new int[x.told(0)];
        for (int p = 0; p < best.length; p++) {
            best[p] = x.best(0, p);
        }
        return best;
    }

    private static void happens(OddPartners x, int what, int n) {
        for (int i = 0; i < x.told(0); i++) {
            for (int j = i + 1; j < x.told(0); j++) {
                int w = x.of(i, j);
                boolean isOfThem = i == n || j == n;
                if (what == 0 && isOfThem || what == 2 && w < n) {
                    x.weigh(i, j, 0);
                } else if (what == 1 && isOfThem && w > 0 && w < 20) {
                    x.weigh(i, j, w + 1);
                } else if (what == 3 && w > 0) {
                    x.weigh(i, j, 1);
                }
            }
        }
    }

    private static void booksAndJudging() {
        of("What it is", "books, partners told by hand looked at,");
        inHouses(x -> {
            x.mend(9);
            x.tape(2, 3, 9);
            int n = x.told(0);
            for (int p = 0; p < n; p++) {
                x.item(2, p + 1, x.partner(p) < 0 ? -1 : x.partner(p));
                x.book(p, x.partner(p));
            }
            // those who have a partner come into the BOOK alone
            due(x.count(3), 2 * x.told(2));
            due(x.looked(), -5);
            due(x.judge(2, 1), -5);
            for (int p = n - 1; p >= 0; p--) {
                x.alone(p);
                due(x.judge(2, 1), firstParted(x));
            }
            due(x.looked(), x.count(3) > 0 ? 0 : -5);
        });
    }

    /** The first who has no partner, though the TAPE tells of one. */
    private static int firstParted(OddPartners x) {
        for (int p = 0; p < x.told(0); p++) {
            if (x.peek(2, p + 1) >= 0 && x.partner(p) < 0) {
                return p;
            }
        }
        return -5;
    }

    private static void images() {
        of("What it is", "an image.");
        for (int number = 0; number < HOUSES; number++) {
            at(", house " + number);
            OddPartners x = some(number);
            due(x.image(), x.told(0));
            x.person();
            x.weigh(0, 1, 1 + number % 20);
            x.take(number % 2);
            x.bear();
            x.odd(7, 1);
            x.see(0, 1);
            x.event(3, 0);
            x.book(0, 1);
            OddPartners y = some(number);
            y.image();
            due(x.undo(), y.told(0));
            due(Trace.of(x).equals(Trace.of(y)) ? 1 : 0, 1);
        }
    }
}
