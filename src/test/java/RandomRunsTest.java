import java.util.Random;

/** Long runs of calls, the same ones each time, answered alike by the program and PlainModel. */
public final class RandomRunsTest {
    private static final int CALLS = 512;
    /** In what waits to be fed: no sign, but a read. */
    private static final char READ = 256;
    private static final int[] ENDS = {Integer.MIN_VALUE, Integer.MAX_VALUE, -2, -1, 7, 8, 9, 10, 20, 21, 40, 41, 60, 61, 127, 128};

    private final Random random;
    private final OddPartners x = new OddPartners();
    private final PlainModel plain = new PlainModel();
    private final int people;
    private final int density;
    private String call = "";
    private String waiting = "";

    private RandomRunsTest(int seed) {
        random = new Random(seed);
        people = 1 + random.nextInt(7);
        density = 1 + random.nextInt(4);
    }

    public static void main(String[] args) {
        int runs = args.length > 0 ? Integer.parseInt(args[0]) : 400;
        for (int seed = 0; seed < runs; seed++) {
            String fault = new RandomRunsTest(seed).run();
            if (fault != null) {
                System.out.println("seed " + seed + ": " + fault);
                System.exit(1);
            }
        }
        System.out.println(runs + " runs of " + CALLS + " calls: all answers alike");
    }

    private String run() {
        StringBuilder last = new StringBuilder();
        for (int n = 0; n < CALLS; n++) {
            long[] both = n < people && random.nextInt(12) != 0 ? both("person", 0) : next();
            last.append(call).append(" -> ").append(both[0]).append('\n');
            if (both[0] != both[1]) {
                return "call " + n + ", due is " + both[1] + "\n" + last;
            }
        }
        return null;
    }

    private int up(int below) {
        if (random.nextInt(30) == 0) {
            return ENDS[random.nextInt(ENDS.length)];
        }
        return random.nextInt(below);
    }

    private int p() {
        return random.nextInt(25) == 0 ? up(9) : random.nextInt(people);
    }

    private static final String[] CHANGES = {"person", "weigh", "weigh", "weigh", "weigh", "weigh", "pair", "pair",
        "pair", "pair", "alone", "take", "mend", "feed", "feed", "feed", "feed", "read", "halves", "halves", "odd",
        "odd", "bear", "see", "event", "event", "book", "image", "undo", "tape", "item", "item", "item", "shift"};
    private static final String[] QUESTIONS = {"of", "partner", "way", "flower", "shrunk", "best", "told", "parts",
        "loss", "proof", "fits", "odds", "mean", "after", "looked", "judge", "count", "peek"};

    private long[] next() {
        if (!waiting.isEmpty()) {
            return fed();
        }
        String[] names = random.nextInt(5) < 2 ? CHANGES : QUESTIONS;
        return both(names[random.nextInt(names.length)], 0);
    }

    private long[] fed() {
        int sign = waiting.charAt(0);
        waiting = waiting.substring(1);
        return sign == READ ? both("read", 0) : both("feed", sign);
    }

    private void compose() {
        StringBuilder t = new StringBuilder();
        int clauses = random.nextInt(10) == 0 ? 11 + random.nextInt(3) : 1 + random.nextInt(4);
        for (int k = 0; k < clauses; k++) {
            t.append(k == 0 ? "" : ";").append(clause());
        }
        if (random.nextInt(4) == 0) {
            t.setCharAt(random.nextInt(t.length()), "pwmh;0129 x".charAt(random.nextInt(11)));
        }
        if (random.nextInt(8) == 0) {
            t.setLength(random.nextInt(t.length() + 1));
        }
        waiting = random.nextInt(5) == 0 ? t.toString() : READ + t.toString() + READ;
    }

    private String clause() {
        String two = "" + random.nextInt(8) + random.nextInt(8);
        switch (random.nextInt(6)) {
            case 0: return "p";
            case 1: return "m" + two;
            case 2: return "h" + random.nextInt(8) + random.nextInt(70);
            default: return "w" + two + (random.nextBoolean() ? random.nextInt(24) : "0" + random.nextInt(10));
        }
    }

    private long[] both(String name, int sign) {
        int a = p();
        int b = p();
        switch (name) {
            case "person":
                call = "person()";
                return of(x.person(), plain.person());
            case "weigh": {
                int w = random.nextInt(5) < density ? up(random.nextBoolean() ? 4 : 21) : 0;
                call = "weigh(" + a + ", " + b + ", " + w + ")";
                return of(x.weigh(a, b, w), plain.weigh(a, b, w));
            }
            case "of":
                call = "of(" + a + ", " + b + ")";
                return of(x.of(a, b), plain.of(a, b));
            case "pair":
                call = "pair(" + a + ", " + b + ")";
                return of(x.pair(a, b), plain.pair(a, b));
            case "alone":
                call = "alone(" + a + ")";
                return of(x.alone(a), plain.alone(a));
            case "take": {
                int rule = up(2);
                call = "take(" + rule + ")";
                return of(x.take(rule), plain.take(rule));
            }
            case "mend": {
                int n = up(4);
                call = "mend(" + n + ")";
                return of(x.mend(n), plain.mend(n));
            }
            case "partner":
                call = "partner(" + a + ")";
                return of(x.partner(a), plain.partner(a));
            case "feed": {
                if (sign == 0) {
                    compose();
                    sign = up(128);
                    if (random.nextInt(6) != 0 && !waiting.isEmpty()) {
                        return fed();
                    }
                }
                call = "feed(" + sign + ")";
                return of(x.feed(sign), plain.feed(sign));
            }
            case "read":
                call = "read()";
                return of(x.read(), plain.read());
            default:
                return asked(name, a, b);
        }
    }

    private long[] asked(String name, int a, int b) {
        int k = random.nextInt(8) == 0 ? up(9) : random.nextInt(7) - 1;
        switch (name) {
            case "way":
                call = "way(" + k + ")";
                return of(x.way(k), plain.way(k));
            case "flower": {
                int what = up(2);
                call = "flower(" + what + ", " + k + ")";
                return of(x.flower(what, k), plain.flower(what, k));
            }
            case "shrunk":
                call = "shrunk()";
                return of(x.shrunk(), plain.shrunk());
            case "best": {
                int rule = up(2);
                call = "best(" + rule + ", " + a + ")";
                return of(x.best(rule, a), plain.best(rule, a));
            }
            case "told": {
                int what = up(11);
                call = "told(" + what + ")";
                return of(x.told(what), plain.told(what));
            }
            case "parts": {
                int what = up(5);
                call = "parts(" + what + ")";
                return of(x.parts(what), plain.parts(what));
            }
            case "loss":
                call = "loss(" + a + ")";
                return of(x.loss(a), plain.loss(a));
            case "halves": {
                int h = up(random.nextBoolean() ? 12 : 61);
                call = "halves(" + a + ", " + h + ")";
                return of(x.halves(a, h), plain.halves(a, h));
            }
            case "odd": {
                int bits = random.nextInt(9) == 0 ? -1 : up(1 << people);
                int h = up(9);
                call = "odd(" + bits + ", " + h + ")";
                return of(x.odd(bits, h), plain.odd(bits, h));
            }
            case "bear":
                call = "bear()";
                return of(x.bear(), plain.bear());
            case "proof": {
                int n = up(4);
                call = "proof(" + n + ")";
                return of(x.proof(n), plain.proof(n));
            }
            default:
                return guessed(name, a, b);
        }
    }

    private long[] guessed(String name, int a, int b) {
        int what = up(2);
        switch (name) {
            case "see":
                a = random.nextInt(4) == 0 ? -1 : a;
                call = "see(" + a + ", " + b + ")";
                return of(x.see(a, b), plain.see(a, b));
            case "fits":
                call = "fits(" + a + ", " + b + ", " + what + ")";
                return of(x.fits(a, b, what), plain.fits(a, b, what));
            case "odds":
                call = "odds(" + a + ", " + b + ", " + what + ")";
                return of(x.odds(a, b, what), plain.odds(a, b, what));
            case "mean":
                call = "mean(" + what + ")";
                return of(x.mean(what), plain.mean(what));
            case "event": {
                int e = random.nextInt(12) == 0 ? -1 : up(5);
                int n = e == 2 ? up(22) : a;
                call = "event(" + e + ", " + n + ")";
                return of(x.event(e, n), plain.event(e, n));
            }
            case "after": {
                int n = up(3);
                call = "after(" + n + ")";
                return of(x.after(n), plain.after(n));
            }
            case "book": {
                int q = x.partner(a);
                int i = random.nextInt(9) == 0 ? -1 : a;
                int j = q >= 0 && random.nextInt(3) != 0 ? q : b;
                call = "book(" + i + ", " + j + ")";
                return of(x.book(i, j), plain.book(i, j));
            }
            case "looked":
                call = "looked()";
                return of(x.looked(), plain.looked());
            default:
                return taped(name);
        }
    }

    private long[] taped(String name) {
        int t = up(6);
        int o = up(6);
        int i = up(12);
        int j = up(12);
        switch (name) {
            case "judge":
                i = random.nextBoolean() ? 0 : i;
                call = "judge(" + t + ", " + i + ")";
                return of(x.judge(t, i), plain.judge(t, i));
            case "image":
                call = "image()";
                return of(x.image(), plain.image());
            case "undo":
                call = "undo()";
                return of(x.undo(), plain.undo());
            case "count": {
                int what = up(5);
                call = "count(" + what + ")";
                return of(x.count(what), plain.count(what));
            }
            case "tape": {
                int sort = random.nextInt(3) == 0 ? 3 : up(6) - 1;
                int n = up(14);
                call = "tape(" + t + ", " + sort + ", " + n + ")";
                return of(x.tape(t, sort, n), plain.tape(t, sort, n));
            }
            case "item": {
                int partner = i < people ? x.partner(i) : 0;
                long v = random.nextInt(4) == 0 ? random.nextLong() : partner < 0 ? -1 : partner;
                call = "item(" + t + ", " + i + ", " + v + "L)";
                return of(x.item(t, i, v), plain.item(t, i, v));
            }
            case "peek":
                call = "peek(" + t + ", " + i + ")";
                return of(x.peek(t, i), plain.peek(t, i));
            case "shift": {
                int n = up(6);
                o = random.nextInt(3) == 0 ? t : o;
                call = "shift(" + t + ", " + i + ", " + o + ", " + j + ", " + n + ")";
                return of(x.shift(t, i, o, j, n), plain.shift(t, i, o, j, n));
            }
            default:
                call = name;
                return of(0, 1);
        }
    }

    private static long[] of(long got, long due) {
        return new long[] {got, due};
    }
}
