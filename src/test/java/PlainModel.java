import java.util.ArrayList;
import java.util.Arrays;
import java.util.List;
import java.util.regex.Matcher;
import java.util.regex.Pattern;

/**
 * The document once more, by lists of all there is (every way to have pairs, every order of
 * people), so that its answers come about otherwise than the program's.
 */
final class PlainModel {
    private static final String CLAUSE = "(p|w\\d\\d\\d\\d?|m\\d\\d|h\\d\\d\\d?)";
    private static final Pattern SET_UP = Pattern.compile(CLAUSE + "(;" + CLAUSE + "){0,11}");

    private static final class State {
        int people;
        int[][] w = new int[7][7];
        int[] mate = {-1, -1, -1, -1, -1, -1, -1};
        int[] halves = new int[7];
        List<int[]> odd = new ArrayList<>();
        List<int[]> seen = new ArrayList<>();
        List<int[]> events = new ArrayList<>();
        List<int[]> book = new ArrayList<>();

        State copy() {
            State s = new State();
            s.people = people;
            s.w = copyOf(w);
            s.mate = mate.clone();
            s.halves = halves.clone();
            s.odd = new ArrayList<>(odd);
            s.seen = new ArrayList<>(seen);
            s.events = new ArrayList<>(events);
            s.book = new ArrayList<>(book);
            return s;
        }
    }

    private State s = new State();
    private State image;
    private String text = "";
    private final Object[] tapes = new Object[6];

    private static int[][] copyOf(int[][] rows) {
        int[][] copy = new int[rows.length][];
        for (int i = 0; i < rows.length; i++) {
            copy[i] = rows[i].clone();
        }
        return copy;
    }

    private boolean is(int p) {
        return p >= 0 && p < s.people;
    }

    private boolean two(int i, int j) {
        return is(i) && is(j) && i != j;
    }

    // ---- people, weights, pairs

    int person() {
        return s.people == 7 ? -4 : s.people++;
    }

    int weigh(int i, int j, int w) {
        if (!two(i, j)) {
            return -1;
        }
        if (w < 0 || w > 20) {
            return -2;
        }
        int was = s.w[i][j];
        s.w[i][j] = w;
        s.w[j][i] = w;
        if (w == 0 && s.mate[i] == j) {
            s.mate[i] = -1;
            s.mate[j] = -1;
        }
        return was;
    }

    int of(int i, int j) {
        return two(i, j) ? s.w[i][j] : -1;
    }

    private int pairs() {
        int n = 0;
        for (int m : s.mate) {
            n += m >= 0 ? 1 : 0;
        }
        return n / 2;
    }

    private int pairWeight() {
        return weightOf(s.w, s.mate);
    }

    private static int weightOf(int[][] w, int[] mate) {
        int sum = 0;
        for (int p = 0; p < 7; p++) {
            sum += mate[p] > p ? w[p][mate[p]] : 0;
        }
        return sum;
    }

    private static int pairsOf(int[] mate) {
        int n = 0;
        for (int m : mate) {
            n += m >= 0 ? 1 : 0;
        }
        return n / 2;
    }

    int pair(int i, int j) {
        if (!two(i, j)) {
            return -1;
        }
        if (s.w[i][j] == 0 || s.mate[i] >= 0 || s.mate[j] >= 0) {
            return -3;
        }
        s.mate[i] = j;
        s.mate[j] = i;
        return pairs();
    }

    int alone(int p) {
        if (!is(p)) {
            return -1;
        }
        int m = s.mate[p];
        if (m < 0) {
            return -5;
        }
        s.mate[p] = -1;
        s.mate[m] = -1;
        return m;
    }

    private static List<int[]> allMatchings(int[][] w, int out) {
        List<int[]> all = new ArrayList<>();
        int[] mate = {-1, -1, -1, -1, -1, -1, -1};
        gather(w, out, 0, mate, all);
        return all;
    }

    private static void gather(int[][] w, int out, int p, int[] mate, List<int[]> all) {
        if (p == 7) {
            all.add(mate.clone());
            return;
        }
        gather(w, out, p + 1, mate, all);
        if (mate[p] >= 0 || p == out) {
            return;
        }
        for (int q = p + 1; q < 7; q++) {
            if (q != out && mate[q] < 0 && w[p][q] > 0) {
                mate[p] = q;
                mate[q] = p;
                gather(w, out, p + 1, mate, all);
                mate[p] = -1;
                mate[q] = -1;
            }
        }
    }

    private static int[] bestOf(int[][] w, int rule, int out) {
        int[] best = null;
        for (int[] m : allMatchings(w, out)) {
            if (best == null || isBetter(w, rule, m, best)) {
                best = m;
            }
        }
        return best;
    }

    private static boolean isBetter(int[][] w, int rule, int[] a, int[] b) {
        if (rule == 1 && pairsOf(a) != pairsOf(b)) {
            return pairsOf(a) > pairsOf(b);
        }
        if (weightOf(w, a) != weightOf(w, b)) {
            return weightOf(w, a) > weightOf(w, b);
        }
        for (int p = 0; p < 7; p++) {
            int x = a[p] < 0 ? 99 : a[p];
            int y = b[p] < 0 ? 99 : b[p];
            if (x != y) {
                return x < y;
            }
        }
        return false;
    }

    int take(int rule) {
        if (rule != 0 && rule != 1) {
            return -2;
        }
        s.mate = bestOf(s.w, rule, -1);
        return pairs();
    }

    int mend(int n) {
        if (n < 0 || n > 9) {
            return -2;
        }
        int times = 0;
        for (int k = 0; k < n; k++) {
            int[] way = theWay();
            if (way == null) {
                break;
            }
            for (int x = 1; x + 1 < way.length; x += 2) {
                s.mate[way[x]] = -1;
                s.mate[way[x + 1]] = -1;
            }
            for (int x = 0; x < way.length; x += 2) {
                s.mate[way[x]] = way[x + 1];
                s.mate[way[x + 1]] = way[x];
            }
            times++;
        }
        return times;
    }

    int partner(int p) {
        if (!is(p)) {
            return -1;
        }
        return s.mate[p] < 0 ? -5 : s.mate[p];
    }

    int feed(int sign) {
        if (sign < 0 || sign > 127) {
            return -2;
        }
        if (text.length() == 100) {
            return -4;
        }
        text += (char) sign;
        return text.length();
    }

    private static boolean begins(String t) {
        Matcher m = SET_UP.matcher(t);
        return m.matches() || m.hitEnd();
    }

    int read() {
        String t = text;
        text = "";
        for (int k = 0; k < t.length(); k++) {
            if (!begins(t.substring(0, k + 1))) {
                return -10 - k;
            }
        }
        if (!SET_UP.matcher(t).matches()) {
            return -10 - t.length();
        }
        int done = 0;
        for (String c : t.split(";")) {
            int i = c.length() > 1 ? c.charAt(1) - '0' : -1;
            int j = c.length() > 2 ? c.charAt(2) - '0' : -1;
            int answer;
            switch (c.charAt(0)) {
                case 'p': answer = person(); break;
                case 'w': answer = weigh(i, j, Integer.parseInt(c.substring(3))); break;
                case 'm': answer = pair(i, j); break;
                default: answer = halves(i, Integer.parseInt(c.substring(2)));
            }
            done += answer >= 0 ? 1 : 0;
        }
        return done;
    }

    // ---- ways, flowers, the best

    /** All rows of n unlike people, the least first. */
    private List<int[]> rows(int n) {
        List<int[]> all = new ArrayList<>();
        rowsInto(new int[n], 0, all);
        return all;
    }

    private void rowsInto(int[] row, int at, List<int[]> all) {
        if (at == row.length) {
            all.add(row.clone());
            return;
        }
        for (int p = 0; p < s.people; p++) {
            boolean used = false;
            for (int k = 0; k < at; k++) {
                used |= row[k] == p;
            }
            // only to keep the lists short: nothing asked for begins with one who has a partner
            if (!used && (at > 0 || s.mate[p] < 0)) {
                row[at] = p;
                rowsInto(row, at + 1, all);
            }
        }
    }

    private boolean isWay(int[] row) {
        for (int k = 0; k + 1 < row.length; k++) {
            boolean good = k % 2 == 0 ? s.w[row[k]][row[k + 1]] > 0 : s.mate[row[k]] == row[k + 1];
            if (!good) {
                return false;
            }
        }
        return s.mate[row[0]] < 0 && s.mate[row[row.length - 1]] < 0;
    }

    private int[] theWay() {
        for (int n = 2; n <= s.people; n += 2) {
            for (int[] row : rows(n)) {
                if (isWay(row)) {
                    return row;
                }
            }
        }
        return null;
    }

    private boolean isStem(int[] stem) {
        if (s.mate[stem[0]] >= 0) {
            return false;
        }
        for (int k = 0; k + 1 < stem.length; k++) {
            boolean good = k % 2 == 0 ? s.w[stem[k]][stem[k + 1]] > 0 : s.mate[stem[k]] == stem[k + 1];
            if (!good) {
                return false;
            }
        }
        return true;
    }

    private boolean isRing(int[] ring) {
        for (int k = 0; k < ring.length; k++) {
            int a = ring[k];
            int b = ring[(k + 1) % ring.length];
            boolean good = k % 2 == 1 && k + 1 < ring.length
                    ? s.mate[a] == b : s.w[a][b] > 0 && s.mate[a] != b;
            if (!good) {
                return false;
            }
        }
        return true;
    }

    private int[][] theFlower() {
        for (int n = 3; n <= s.people; n += 2) {
            List<int[]> rows = rows(n);
            for (int stem = 1; stem <= n - 2; stem += 2) {
                for (int[] row : rows) {
                    int[] a = Arrays.copyOfRange(row, 0, stem);
                    int[] b = Arrays.copyOfRange(row, stem - 1, n);
                    if (isStem(a) && isRing(b)) {
                        return new int[][] {a, b};
                    }
                }
            }
        }
        return null;
    }

    private static int kth(int[] row, int k) {
        if (k == -1) {
            return row.length;
        }
        return k >= 0 && k < row.length ? row[k] : -1;
    }

    int way(int k) {
        int[] way = theWay();
        return way == null ? -5 : kth(way, k);
    }

    int flower(int what, int k) {
        if (what != 0 && what != 1) {
            return -1;
        }
        int[][] flower = theFlower();
        return flower == null ? -5 : kth(flower[what], k);
    }

    int shrunk() {
        int[][] flower = theFlower();
        if (flower == null) {
            return -5;
        }
        int[] name = new int[7];
        for (int p = 0; p < 7; p++) {
            name[p] = p;
        }
        for (int p : flower[1]) {
            name[p] = flower[1][0];
        }
        int[][] w = new int[7][7];
        for (int i = 0; i < 7; i++) {
            for (int j = 0; j < 7; j++) {
                if (s.w[i][j] > 0 && name[i] != name[j]) {
                    w[name[i]][name[j]] = 1;
                }
            }
        }
        return pairsOf(bestOf(w, 1, -1));
    }

    int best(int rule, int p) {
        if (rule != 0 && rule != 1) {
            return -2;
        }
        if (!is(p)) {
            return -1;
        }
        int m = bestOf(s.w, rule, -1)[p];
        return m < 0 ? -5 : m;
    }

    private int have(int i, int j) {
        int have = s.halves[i] + s.halves[j];
        for (int[] o : s.odd) {
            have += (o[0] & 1 << i) != 0 && (o[0] & 1 << j) != 0 ? o[1] : 0;
        }
        return have;
    }

    private int sum() {
        int sum = 0;
        for (int h : s.halves) {
            sum += h;
        }
        for (int[] o : s.odd) {
            sum += o[1] * ((Integer.bitCount(o[0]) - 1) / 2);
        }
        return sum;
    }

    int told(int what) {
        int links = 0;
        int tight = 0;
        for (int i = 0; i < 7; i++) {
            for (int j = i + 1; j < 7; j++) {
                if (s.w[i][j] > 0) {
                    links++;
                    tight += have(i, j) == 2 * s.w[i][j] ? 1 : 0;
                }
            }
        }
        int[] heavy = bestOf(s.w, 0, -1);
        int[] most = bestOf(s.w, 1, -1);
        int[] all = {s.people, links, pairs(), pairWeight(), s.people - 2 * pairs(),
            weightOf(s.w, heavy), pairsOf(heavy), weightOf(s.w, most), pairsOf(most), tight, sum()};
        return what >= 0 && what < all.length ? all[what] : -1;
    }

    private int oddParts(int bits) {
        int[] part = new int[7];
        for (int p = 0; p < 7; p++) {
            part[p] = p;
        }
        for (int times = 0; times < 7; times++) {
            for (int i = 0; i < 7; i++) {
                for (int j = 0; j < 7; j++) {
                    if ((bits & 1 << i) != 0 && (bits & 1 << j) != 0 && s.w[i][j] > 0) {
                        part[i] = Math.min(part[i], part[j]);
                    }
                }
            }
        }
        int[] size = new int[7];
        for (int p = 0; p < 7; p++) {
            size[part[p]] += (bits & 1 << p) != 0 ? 1 : 0;
        }
        int odd = 0;
        for (int n : size) {
            odd += n % 2;
        }
        return odd;
    }

    int parts(int what) {
        if (what < 0 || what > 4) {
            return -1;
        }
        int all = (1 << s.people) - 1;
        int top = pairsOf(bestOf(s.w, 1, -1));
        int over = 0;
        for (int[] m : allMatchings(s.w, -1)) {
            for (int p = 0; p < s.people; p++) {
                if (pairsOf(m) == top && m[p] < 0) {
                    over |= 1 << p;
                }
            }
        }
        int edge = 0;
        for (int p = 0; p < s.people; p++) {
            for (int q = 0; q < s.people; q++) {
                if ((over & 1 << p) == 0 && (over & 1 << q) != 0 && s.w[p][q] > 0) {
                    edge |= 1 << p;
                }
            }
        }
        int barrier = -1;
        int gain = 0;
        for (int size = 0; size <= s.people; size++) {
            for (int bits = 0; bits <= all; bits++) {
                if (Integer.bitCount(bits) == size) {
                    int g = oddParts(all & ~bits) - size;
                    if (barrier < 0 || g > gain) {
                        barrier = bits;
                        gain = g;
                    }
                }
            }
        }
        return new int[] {over, edge, all & ~over & ~edge, barrier, gain}[what];
    }

    int loss(int p) {
        return is(p) ? weightOf(s.w, bestOf(s.w, 0, -1)) - weightOf(s.w, bestOf(s.w, 0, p)) : -1;
    }

    // ---- halves, the proof

    int halves(int p, int h) {
        if (!is(p)) {
            return -1;
        }
        if (h < 0 || h > 60) {
            return -2;
        }
        int was = s.halves[p];
        s.halves[p] = h;
        return was;
    }

    int odd(int bits, int h) {
        if (bits == -1) {
            s.odd.clear();
            return 0;
        }
        int n = Integer.bitCount(bits);
        if (bits < 0 || bits >= 1 << s.people || n < 3 || n % 2 == 0 || h < 1 || h > 40) {
            return -2;
        }
        return come(s.odd, bits, h, 3);
    }

    private static int come(List<int[]> rows, int a, int b, int limit) {
        if (rows.size() == limit) {
            return -4;
        }
        rows.add(new int[] {a, b});
        return rows.size();
    }

    int bear() {
        s.odd.clear();
        for (int p = 0; p < s.people; p++) {
            s.halves[p] = Arrays.stream(s.w[p]).max().getAsInt();
        }
        return sum();
    }

    int proof(int k) {
        if (k < 0) {
            return -1;
        }
        int[] fault = fault();
        return fault == null || k > 2 ? -5 : fault[k];
    }

    private int[] fault() {
        for (int i = 0; i < 7; i++) {
            for (int j = i + 1; j < 7; j++) {
                if (s.w[i][j] > 0 && have(i, j) < 2 * s.w[i][j]) {
                    return new int[] {1, 10 * i + j, 2 * s.w[i][j] - have(i, j)};
                }
            }
        }
        for (int[] o : s.odd) {
            int in = 0;
            for (int p = 0; p < 7; p++) {
                in += s.mate[p] > p && (o[0] & 1 << p) != 0 && (o[0] & 1 << s.mate[p]) != 0 ? 1 : 0;
            }
            if (2 * in < Integer.bitCount(o[0]) - 1) {
                return new int[] {2, o[0], in};
            }
        }
        for (int p = 0; p < s.people; p++) {
            if (s.mate[p] < 0 && s.halves[p] > 0) {
                return new int[] {3, p, s.halves[p]};
            }
        }
        for (int p = 0; p < 7; p++) {
            int m = s.mate[p];
            if (m > p && have(p, m) != 2 * s.w[p][m]) {
                return new int[] {4, 10 * p + m, have(p, m) - 2 * s.w[p][m]};
            }
        }
        return null;
    }

    // ---- seen, odds

    int see(int i, int j) {
        if (i == -1) {
            s.seen.clear();
            return 0;
        }
        return two(i, j) ? come(s.seen, i, j, 5) : -1;
    }

    private int[] bestWith(int i, int j, int v) {
        int[][] w = copyOf(s.w);
        w[i][j] = v;
        w[j][i] = v;
        return bestOf(w, 0, -1);
    }

    int fits(int i, int j, int what) {
        if (!two(i, j) || what < 0 || what > 1) {
            return -1;
        }
        List<Integer> fit = new ArrayList<>();
        for (int v = 0; v <= 20; v++) {
            int[] m = bestWith(i, j, v);
            if (s.seen.stream().allMatch(row -> m[row[0]] == row[1])) {
                fit.add(v);
            }
        }
        if (what == 0) {
            return fit.size();
        }
        return fit.isEmpty() ? -5 : fit.get(0);
    }

    long odds(int i, int j, int part) {
        if (!two(i, j) || part < 0 || part > 1) {
            return Long.MIN_VALUE;
        }
        int n = 0;
        for (int v = 0; v <= 9; v++) {
            n += bestWith(i, j, v)[i] == j ? 1 : 0;
        }
        return fraction(n, 10)[part];
    }

    private static long[] fraction(int a, int b) {
        int g = java.math.BigInteger.valueOf(a).gcd(java.math.BigInteger.valueOf(b)).intValue();
        return new long[] {a / g, b / g};
    }

    long mean(int part) {
        if (part < 0 || part > 1 || pairs() == 0) {
            return Long.MIN_VALUE;
        }
        return fraction(pairWeight(), pairs())[part];
    }

    // ---- events, books

    int event(int what, int n) {
        if (what == -1) {
            s.events.clear();
            return 0;
        }
        if (what < 0 || what > 3 || what < 2 && !is(n)) {
            return -1;
        }
        if (what == 2 && (n < 0 || n > 20)) {
            return -2;
        }
        return come(s.events, what, n, 8);
    }

    int after(int what) {
        if (what < 0 || what > 2) {
            return -1;
        }
        int[][] w = copyOf(s.w);
        for (int[] e : s.events) {
            for (int i = 0; i < 7; i++) {
                for (int j = 0; j < 7; j++) {
                    boolean his = i == e[1] || j == e[1];
                    int v = w[i][j];
                    if (e[0] == 0 && his || e[0] == 2 && v < e[1]) {
                        w[i][j] = 0;
                    } else if (e[0] == 1 && his && v > 0 && v < 20) {
                        w[i][j] = v + 1;
                    } else if (e[0] == 3 && v > 0) {
                        w[i][j] = 1;
                    }
                }
            }
        }
        int[] then = bestOf(w, 0, -1);
        int[] now = bestOf(s.w, 0, -1);
        int other = 0;
        for (int p = 0; p < 7; p++) {
            other += then[p] != now[p] ? 1 : 0;
        }
        return new int[] {weightOf(w, then), pairsOf(bestOf(w, 1, -1)), other}[what];
    }

    int book(int i, int j) {
        if (i == -1) {
            s.book.clear();
            return 0;
        }
        return two(i, j) ? come(s.book, i, j, 8) : -1;
    }

    int looked() {
        for (int k = 0; k < s.book.size(); k++) {
            if (s.mate[s.book.get(k)[0]] != s.book.get(k)[1]) {
                return k;
            }
        }
        return -5;
    }

    // ---- judging, the image, tapes

    int judge(int tape, int i) {
        if (tape < 0 || tape > 5) {
            return -1;
        }
        if (tapes[tape] != null && !(tapes[tape] instanceof long[])) {
            return -12;
        }
        long[] row = tapes[tape] == null ? new long[0] : (long[]) tapes[tape];
        if (s.people == 0) {
            return -5;
        }
        if (i < 0) {
            return 100;
        }
        for (int p = 0; p < s.people; p++) {
            long place = (long) i + p;
            if (place >= row.length) {
                return 100 + p;
            }
            if (row[(int) place] != s.mate[p]) {
                return p;
            }
        }
        return -5;
    }

    int image() {
        image = s.copy();
        return s.people;
    }

    int undo() {
        if (image == null) {
            return -3;
        }
        s = image.copy();
        return s.people;
    }

    int count(int what) {
        int[] all = {s.odd.size(), s.seen.size(), s.events.size(), s.book.size(), text.length()};
        return what >= 0 && what < 5 ? all[what] : -2;
    }

    int tape(int tape, int sort, int n) {
        if (tape < 0 || tape > 5) {
            return -1;
        }
        if (sort < -1 || sort > 4) {
            return -2;
        }
        if (sort == -1) {
            tapes[tape] = null;
            return 1;
        }
        if (n > 60) {
            return -2;
        }
        if (n < 0) {
            return -14;
        }
        tapes[tape] = java.lang.reflect.Array.newInstance(
                new Class<?>[] {byte.class, short.class, int.class, long.class, boolean.class}[sort], n);
        return 1;
    }

    private static int sizeOf(Object row) {
        return java.lang.reflect.Array.getLength(row);
    }

    int item(int tape, int i, long v) {
        if (tape < 0 || tape > 5) {
            return -1;
        }
        Object row = tapes[tape];
        if (row == null) {
            return -11;
        }
        if (i < 0 || i >= sizeOf(row)) {
            return -13;
        }
        if (row instanceof byte[]) {
            ((byte[]) row)[i] = (byte) v;
        } else if (row instanceof short[]) {
            ((short[]) row)[i] = (short) v;
        } else if (row instanceof int[]) {
            ((int[]) row)[i] = (int) v;
        } else if (row instanceof long[]) {
            ((long[]) row)[i] = v;
        } else {
            ((boolean[]) row)[i] = v != 0;
        }
        return 1;
    }

    long peek(int tape, int i) {
        if (tape < 0 || tape > 5 || tapes[tape] == null || i < 0 || i >= sizeOf(tapes[tape])) {
            return Long.MIN_VALUE;
        }
        if (tapes[tape] instanceof boolean[]) {
            return ((boolean[]) tapes[tape])[i] ? 1 : 0;
        }
        return java.lang.reflect.Array.getLong(tapes[tape], i);
    }

    int shift(int tape, int i, int other, int j, int n) {
        if (tape < 0 || tape > 5 || other < 0 || other > 5) {
            return -1;
        }
        Object from = tapes[tape];
        Object to = tapes[other];
        if (from == null || to == null) {
            return -11;
        }
        if (from.getClass() != to.getClass()) {
            return -12;
        }
        if (n < 0 || i < 0 || j < 0 || (long) i + n > sizeOf(from) || (long) j + n > sizeOf(to)) {
            return -13;
        }
        System.arraycopy(from, i, to, j, n);
        return n;
    }
}
