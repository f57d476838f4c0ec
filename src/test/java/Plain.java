import java.math.BigInteger;
import java.util.ArrayList;
import java.util.Arrays;
import java.util.List;
import java.util.TreeSet;

/**
 * The document once more, as literally and slowly as can be, to compare the program with.
 * It keeps nothing that it works out, and takes other roads than the program wherever there are any.
 */
final class Plain {
    static final int NONE = -1;
    static final int VOID = Integer.MIN_VALUE;

    /** A VOTER; never changed, so that a row of them can be copied cheaply. */
    record Voter(int x, int y, int weight, int measure, int a, int b) {
        Voter at(int newX, int newY) {
            return new Voter(newX, newY, weight, measure, a, b);
        }

        int way(int px, int py) {
            int dx = Math.abs(px - x) * a;
            int dy = Math.abs(py - y) * b;
            return switch (measure) {
                case 0 -> dx * dx + dy * dy;
                case 1 -> dx + dy;
                case 2 -> Math.max(dx, dy);
                default -> dx;
            };
        }
    }

    record Spot(int x, int y) { }

    /** a x + b y = c. */
    record Line(int a, int b, int c) { }

    /** (x, y) by n. */
    record Ratio(BigInteger x, BigInteger y, BigInteger n) { }

    record Move(int voter, int fromX, int fromY, int toX, int toY, int[] followed) { }

    private byte[] text = new byte[0];
    private List<Voter> voters = new ArrayList<>();
    private List<Spot> places = new ArrayList<>();
    private String bar = "more";
    private int barA = 1;
    private int barB = 1;
    private final List<Move> moves = new ArrayList<>();

    // ---- the text ----

    int feed(int... numbers) {
        if (text.length + 20 > 600) {
            return NONE;
        }
        byte[] longer = Arrays.copyOf(text, text.length + 20);
        for (int i = 0; i < 20; i++) {
            longer[text.length + i] = (byte) (numbers[i / 4] >> 8 * (3 - i % 4));
        }
        text = longer;
        return text.length;
    }

    boolean end(int n) {
        if (n < 0 || n > text.length) {
            return false;
        }
        text = Arrays.copyOf(text, n);
        return true;
    }

    private record Token(String sign, int at) { }

    /** Thrown by the reading where a TOKEN can't stand. */
    private static final class Stop extends RuntimeException {
        private static final long serialVersionUID = 1;
        final int at;

        Stop(int at) {
            this.at = at;
        }
    }

    /** All TOKENS up to the first byte that begins none (told as "?") or the end (told as ""). */
    private List<Token> tokens() {
        String whole = new String(text, java.nio.charset.StandardCharsets.ISO_8859_1);
        java.util.regex.Matcher m = java.util.regex.Pattern.compile("[a-z]+|[0-9]+|/|;").matcher(whole);
        List<Token> all = new ArrayList<>();
        int at = 0;
        while (at < whole.length()) {
            if (whole.charAt(at) == ' ' || whole.charAt(at) == '\n') {
                at++;
            } else if (m.find(at) && m.start() == at) {
                all.add(new Token(m.group(), at));
                at = m.end();
            } else {
                all.add(new Token("?", at));
                return all;
            }
        }
        all.add(new Token("", whole.length()));
        return all;
    }

    private List<Token> row;
    private int next;

    private String take(String... allowed) {
        Token t = row.get(next);
        if (!Arrays.asList(allowed).contains(t.sign)) {
            throw new Stop(t.at);
        }
        next++;
        return t.sign;
    }

    private int number(int least, int most) {
        Token t = row.get(next);
        if (!t.sign.matches("[0-9]+")) {
            throw new Stop(t.at);
        }
        BigInteger value = new BigInteger(t.sign);
        if (value.compareTo(BigInteger.valueOf(least)) < 0 || value.compareTo(BigInteger.valueOf(most)) > 0) {
            throw new Stop(t.at);
        }
        next++;
        return value.intValue();
    }

    private void read(Plain into) {
        row = tokens();
        next = 0;
        int measure = 0;
        int a = 1;
        int b = 1;
        boolean won = false;
        while (!row.get(next).sign.isEmpty()) {
            int at = row.get(next).at;
            switch (take("near", "stretch", "voter", "place", "win")) {
                case "near" -> measure = List.of("crow", "street", "side", "line")
                        .indexOf(take("crow", "street", "side", "line"));
                case "stretch" -> {
                    a = number(1, 9);
                    b = number(1, 9);
                }
                case "voter" -> {
                    if (into.voters.size() == 15) {
                        throw new Stop(at);
                    }
                    int x = number(0, 99);
                    int y = number(0, 99);
                    int weight = 1;
                    if (take("by", ";").equals("by")) {
                        weight = number(1, 9);
                    } else {
                        next--;
                    }
                    into.voters.add(new Voter(x, y, weight, measure, a, b));
                }
                case "place" -> {
                    if (into.places.size() == 20) {
                        throw new Stop(at);
                    }
                    into.places.add(new Spot(number(0, 99), number(0, 99)));
                }
                default -> {
                    if (won) {
                        throw new Stop(at);
                    }
                    won = true;
                    into.bar = take("more", "over", "least");
                    if (!into.bar.equals("more")) {
                        into.barA = number(1, 99);
                        take("/");
                        into.barB = number(into.barA, Math.min(99, 2 * into.barA));
                    }
                }
            }
            take(";");
        }
        if (into.voters.isEmpty()) {
            throw new Stop(text.length);
        }
    }

    int fault() {
        try {
            read(new Plain());
            return NONE;
        } catch (Stop stop) {
            return stop.at;
        }
    }

    int sheet() {
        Plain fresh = new Plain();
        try {
            read(fresh);
        } catch (Stop stop) {
            return NONE;
        }
        voters = fresh.voters;
        places = fresh.places;
        bar = fresh.bar;
        barA = fresh.barA;
        barB = fresh.barB;
        moves.clear();
        text = new byte[0];
        return voters.size();
    }

    // ---- what was told ----

    int voter(int v, int what) {
        if (v < 0 || v >= voters.size() || what < 0 || what > 5) {
            return NONE;
        }
        Voter who = voters.get(v);
        return new int[] {who.x, who.y, who.weight, who.measure, who.a, who.b}[what];
    }

    int place(int p, int what) {
        if (!has(p) || what < 0 || what > 1) {
            return NONE;
        }
        return what == 0 ? places.get(p).x : places.get(p).y;
    }

    private boolean has(int p) {
        return p >= 0 && p < places.size();
    }

    private static boolean point(int x, int y) {
        return x >= 0 && x <= 99 && y >= 0 && y <= 99;
    }

    int propose(int x, int y) {
        if (voters.isEmpty() || !point(x, y) || places.size() == 20) {
            return NONE;
        }
        places.add(new Spot(x, y));
        return places.size() - 1;
    }

    int way(int v, int x, int y) {
        return v < 0 || v >= voters.size() || !point(x, y) ? NONE : voters.get(v).way(x, y);
    }

    private int all() {
        return voters.stream().mapToInt(Voter::weight).sum();
    }

    // ---- what beats what ----

    private static int forOf(List<Voter> people, Spot one, Spot other) {
        return people.stream().filter(v -> v.way(one.x, one.y) < v.way(other.x, other.y))
                .mapToInt(Voter::weight).sum();
    }

    private boolean enough(int pro, int contra) {
        return switch (bar) {
            case "more" -> pro > contra;
            case "over" -> pro * barB > barA * all();
            default -> pro * barB >= barA * all() && pro > contra;
        };
    }

    private boolean beats(List<Voter> people, Spot one, Spot other) {
        return enough(forOf(people, one, other), forOf(people, other, one));
    }

    int votes(int one, int other) {
        return has(one) && has(other) ? forOf(voters, places.get(one), places.get(other)) : NONE;
    }

    boolean beats(int one, int other) {
        return has(one) && has(other) && beats(voters, places.get(one), places.get(other));
    }

    boolean wins(int one, int other) {
        if (voters.isEmpty() || one < 0 || one > 9999 || other < 0 || other > 9999) {
            return false;
        }
        return beats(voters, new Spot(one / 100, one % 100), new Spot(other / 100, other % 100));
    }

    // ---- lines and middles ----

    private boolean halving(Line l) {
        int above = 0;
        int below = 0;
        for (Voter v : voters) {
            int side = Integer.compare(l.a * v.x + l.b * v.y, l.c);
            above += side > 0 ? v.weight : 0;
            below += side < 0 ? v.weight : 0;
        }
        return above * 2 <= all() && below * 2 <= all();
    }

    private List<Line> lines() {
        TreeSet<Line> sorted = new TreeSet<>((l, m) -> {
            if ((l.a == 0) != (m.a == 0)) {
                return l.a == 0 ? 1 : -1;
            }
            int slope = l.a == 0 ? 0 : Integer.compare(l.b * m.a, m.b * l.a);
            return slope != 0 ? slope : Integer.compare(l.c, m.c);
        });
        for (Voter v : voters) {
            for (Voter u : voters) {
                if (v.x == u.x && v.y == u.y) {
                    continue;
                }
                int a = u.y - v.y;
                int b = v.x - u.x;
                int g = BigInteger.valueOf(a).gcd(BigInteger.valueOf(b)).intValue();
                a /= g;
                b /= g;
                // The other order of the two gives the same line with the signs that are asked for.
                if (a < 0 || a == 0 && b < 0) {
                    continue;
                }
                Line l = new Line(a, b, a * v.x + b * v.y);
                if (halving(l)) {
                    sorted.add(l);
                }
            }
        }
        return new ArrayList<>(sorted);
    }

    int line(int k, int what) {
        List<Line> all = lines();
        if (k == NONE) {
            return all.size();
        }
        if (k < 0 || k >= all.size() || what < 0 || what > 2) {
            return VOID;
        }
        Line l = all.get(k);
        return new int[] {l.a, l.b, l.c}[what];
    }

    private static Ratio ratio(long x, long y, long n) {
        BigInteger bx = BigInteger.valueOf(x);
        BigInteger by = BigInteger.valueOf(y);
        BigInteger bn = BigInteger.valueOf(n);
        BigInteger g = bx.gcd(by).gcd(bn);
        if (n < 0) {
            g = g.negate();
        }
        return new Ratio(bx.divide(g), by.divide(g), bn.divide(g));
    }

    private static int half(long[] d) {
        return d[1] > 0 || d[1] == 0 && d[0] > 0 ? 0 : 1;
    }

    /** Tries the lines through a place to each VOTER, and one in each gap between two such lines. */
    private boolean isMiddle(Ratio place) {
        long x = place.x.longValueExact();
        long y = place.y.longValueExact();
        long n = place.n.longValueExact();
        List<long[]> turns = new ArrayList<>();
        for (Voter v : voters) {
            long dx = n * v.x - x;
            long dy = n * v.y - y;
            if (dx != 0 || dy != 0) {
                turns.add(new long[] {dx, dy});
                turns.add(new long[] {-dx, -dy});
            }
        }
        turns.sort((d, e) -> half(d) != half(e) ? half(d) - half(e) : Long.signum(e[0] * d[1] - e[1] * d[0]));
        List<long[]> tried = new ArrayList<>(turns);
        for (int i = 0; i < turns.size(); i++) {
            long[] d = turns.get(i);
            long[] e = turns.get((i + 1) % turns.size());
            boolean opposite = d[0] * e[1] == d[1] * e[0] && d[0] * e[0] + d[1] * e[1] < 0;
            tried.add(opposite ? new long[] {-d[1], d[0]} : new long[] {d[0] + e[0], d[1] + e[1]});
        }
        for (long[] d : tried) {
            int left = 0;
            for (Voter v : voters) {
                left += d[0] * (n * v.y - y) - d[1] * (n * v.x - x) > 0 ? v.weight : 0;
            }
            // Every direction is tried the other way round too, so the left side is enough.
            if (left * 2 > all()) {
                return false;
            }
        }
        return true;
    }

    private List<Ratio> middles() {
        TreeSet<Ratio> sorted = new TreeSet<>((p, q) -> {
            int byX = p.x.multiply(q.n).compareTo(q.x.multiply(p.n));
            return byX != 0 ? byX : p.y.multiply(q.n).compareTo(q.y.multiply(p.n));
        });
        for (Voter v : voters) {
            sorted.add(ratio(v.x, v.y, 1));
        }
        List<Line> all = lines();
        for (Line l : all) {
            for (Line m : all) {
                long turn = (long) l.a * m.b - (long) m.a * l.b;
                if (turn != 0) {
                    sorted.add(ratio((long) l.c * m.b - (long) m.c * l.b, (long) l.a * m.c - (long) m.a * l.c, turn));
                }
            }
        }
        sorted.removeIf(p -> !isMiddle(p));
        return new ArrayList<>(sorted);
    }

    int middle(int k, int what) {
        List<Ratio> all = middles();
        if (k == NONE) {
            return all.size();
        }
        if (k < 0 || k >= all.size() || what < 0 || what > 2) {
            return VOID;
        }
        Ratio r = all.get(k);
        return List.of(r.x, r.y, r.n).get(what).intValueExact();
    }

    /** Three lines have a place in common if all of them, or all but like ones, cross there. */
    private static boolean inCommon(Line l, Line m, Line o) {
        long turn = (long) l.a * m.b - (long) m.a * l.b;
        if (turn == 0) {
            return false;
        }
        long x = (long) l.c * m.b - (long) m.c * l.b;
        long y = (long) l.a * m.c - (long) m.a * l.c;
        return o.a * x + o.b * y == o.c * turn;
    }

    int proof(int k) {
        if (k < 0 || k > 2 || !middles().isEmpty()) {
            return NONE;
        }
        List<Line> all = lines();
        for (int i = 0; i < all.size(); i++) {
            for (int j = i + 1; j < all.size(); j++) {
                for (int m = j + 1; m < all.size(); m++) {
                    if (!inCommon(all.get(i), all.get(j), all.get(m))) {
                        return new int[] {i, j, m}[k];
                    }
                }
            }
        }
        return NONE;
    }

    int round(int what) {
        if (voters.isEmpty() || what < 0 || what > 3) {
            return NONE;
        }
        List<Line> all = lines();
        long[] best = null;
        for (int x = 0; x <= 99; x++) {
            for (int y = 0; y <= 99; y++) {
                long p = 0;
                long q = 1;
                for (Line l : all) {
                    long off = (long) l.a * x + (long) l.b * y - l.c;
                    long norm = (long) l.a * l.a + (long) l.b * l.b;
                    if (off * off * q > p * norm) {
                        p = off * off;
                        q = norm;
                    }
                }
                if (best == null || p * best[3] < best[2] * q) {
                    best = new long[] {x, y, p, q};
                }
            }
        }
        long g = BigInteger.valueOf(best[2]).gcd(BigInteger.valueOf(best[3])).longValue();
        return (int) (what < 2 ? best[what] : best[what] / g);
    }

    // ---- win sets ----

    private boolean[][] winning(int x, int y) {
        boolean[][] in = new boolean[100][100];
        for (int i = 0; i < 100; i++) {
            for (int j = 0; j < 100; j++) {
                in[i][j] = beatsFast(i, j, x, y);
            }
        }
        return in;
    }

    private boolean beatsFast(int i, int j, int x, int y) {
        int pro = 0;
        int contra = 0;
        for (Voter v : voters) {
            int sign = Integer.compare(v.way(i, j), v.way(x, y));
            pro += sign < 0 ? v.weight : 0;
            contra += sign > 0 ? v.weight : 0;
        }
        return enough(pro, contra);
    }

    /** x, y and size of each PIECE: the least POINT is spread to neighbours until nothing changes. */
    private List<int[]> pieces(int x, int y) {
        boolean[][] in = winning(x, y);
        int[] piece = new int[10000];
        for (int i = 0; i < 10000; i++) {
            piece[i] = in[i / 100][i % 100] ? i : NONE;
        }
        boolean changed = true;
        while (changed) {
            changed = false;
            for (int round = 0; round < 2; round++) {
                for (int n = 0; n < 10000; n++) {
                    int i = round == 0 ? n : 9999 - n;
                    for (int j : new int[] {i % 100 < 99 ? i + 1 : i, i < 9900 ? i + 100 : i}) {
                        if (piece[i] != NONE && piece[j] != NONE && piece[i] != piece[j]) {
                            piece[i] = Math.min(piece[i], piece[j]);
                            piece[j] = piece[i];
                            changed = true;
                        }
                    }
                }
            }
        }
        int[] size = new int[10000];
        for (int i = 0; i < 10000; i++) {
            if (piece[i] != NONE) {
                size[piece[i]]++;
            }
        }
        List<int[]> found = new ArrayList<>();
        for (int i = 0; i < 10000; i++) {
            if (size[i] > 0) {
                found.add(new int[] {i / 100, i % 100, size[i]});
            }
        }
        return found;
    }

    int winSet(int x, int y, int what) {
        if (voters.isEmpty() || !point(x, y) || what < 0 || what > 1) {
            return NONE;
        }
        if (what == 1) {
            return pieces(x, y).size();
        }
        int n = 0;
        for (boolean[] column : winning(x, y)) {
            for (boolean in : column) {
                n += in ? 1 : 0;
            }
        }
        return n;
    }

    int piece(int x, int y, int k, int what) {
        if (voters.isEmpty() || !point(x, y) || what < 0 || what > 2) {
            return NONE;
        }
        List<int[]> all = pieces(x, y);
        return k < 0 || k >= all.size() ? NONE : all.get(k)[what];
    }

    int most(int x, int y) {
        if (voters.isEmpty() || !point(x, y)) {
            return NONE;
        }
        int best = 0;
        for (int i = 0; i < 10000; i++) {
            int pro = 0;
            for (Voter v : voters) {
                pro += v.way(i / 100, i % 100) < v.way(x, y) ? v.weight : 0;
            }
            best = Math.max(best, pro);
        }
        return best;
    }

    int between(int one, int other) {
        if (!has(one) || !has(other)) {
            return NONE;
        }
        Spot low = places.get(one);
        Spot high = places.get(other);
        for (int i = 0; i < 10000; i++) {
            if (beatsFast(i / 100, i % 100, low.x, low.y) && beatsFast(high.x, high.y, i / 100, i % 100)) {
                return i;
            }
        }
        return NONE;
    }

    // ---- led, top, open ----

    /** The first of the shortest rows, or null: rows are made longer one by one, in their order. */
    private List<Integer> row(int from, int to) {
        List<List<Integer>> rows = List.of(List.of(from));
        boolean[] seen = new boolean[20];
        seen[from] = true;
        while (!rows.isEmpty()) {
            List<List<Integer>> longer = new ArrayList<>();
            for (List<Integer> r : rows) {
                int last = r.get(r.size() - 1);
                if (last == to) {
                    return r;
                }
                for (int p = 0; p < places.size(); p++) {
                    if (!seen[p] && beats(p, last)) {
                        seen[p] = true;
                        List<Integer> more = new ArrayList<>(r);
                        more.add(p);
                        longer.add(more);
                    }
                }
            }
            rows = longer;
        }
        return null;
    }

    int led(int from, int to, int k) {
        if (!has(from) || !has(to)) {
            return NONE;
        }
        List<Integer> r = row(from, to);
        if (r == null || k < NONE || k >= r.size()) {
            return NONE;
        }
        return k == NONE ? r.size() - 1 : r.get(k);
    }

    int best(int what) {
        if (voters.isEmpty() || what < 0 || what > 1) {
            return NONE;
        }
        int bits = 0;
        for (int p = 0; p < places.size(); p++) {
            boolean good = true;
            for (int q = 0; q < places.size(); q++) {
                good &= what == 0 ? row(q, p) != null : q == p || !covers(q, p);
            }
            bits |= good ? 1 << p : 0;
        }
        return bits;
    }

    private boolean covers(int one, int other) {
        boolean covers = beats(one, other);
        for (int p = 0; p < places.size(); p++) {
            covers &= !beats(p, one) || beats(p, other);
        }
        return covers;
    }

    // ---- two parties ----

    private int gain(int i, int j) {
        return votes(i, j) - votes(j, i);
    }

    int rest() {
        int n = Math.min(8, places.size());
        for (int j = 0; j < n; j++) {
            boolean rests = true;
            for (int i = 0; i < n; i++) {
                rests &= gain(i, j) <= 0;
            }
            if (rests) {
                return j;
            }
        }
        return NONE;
    }

    /** Shares in whole numbers without a common part, or null; by elimination with whole numbers. */
    private long[] lots() {
        int n = Math.min(8, places.size());
        BigInteger[][] gains = new BigInteger[n][n];
        for (int i = 0; i < n; i++) {
            for (int j = 0; j < n; j++) {
                gains[i][j] = BigInteger.valueOf(gain(i, j));
            }
        }
        long[] found = null;
        for (int size = 1; size <= n; size++) {
            for (int bits = 1; bits < 1 << n && found == null; bits++) {
                if (Integer.bitCount(bits) == size) {
                    found = lotsAt(gains, bits, n);
                }
            }
        }
        return found;
    }

    private static long[] lotsAt(BigInteger[][] gains, int bits, int n) {
        List<Integer> at = new ArrayList<>();
        for (int i = 0; i < n; i++) {
            if ((bits >> i & 1) == 1) {
                at.add(i);
            }
        }
        BigInteger[] only = onlySolution(gains, at);
        if (only == null) {
            return null;
        }
        BigInteger g = BigInteger.ZERO;
        for (BigInteger share : only) {
            if (share.signum() == 0 || share.signum() != only[0].signum()) {
                return null;
            }
            g = g.gcd(share);
        }
        long[] shares = new long[n];
        for (int i = 0; i < at.size(); i++) {
            shares[at.get(i)] = only[i].abs().divide(g).longValueExact();
        }
        for (int i = 0; i < n; i++) {
            BigInteger sum = BigInteger.ZERO;
            for (int j = 0; j < n; j++) {
                sum = sum.add(gains[i][j].multiply(BigInteger.valueOf(shares[j])));
            }
            if (sum.signum() > 0) {
                return null;
            }
        }
        return shares;
    }

    /** The one direction of solutions of gains 0 among these, or null if there is none or more. */
    private static BigInteger[] onlySolution(BigInteger[][] gains, List<Integer> at) {
        int n = at.size();
        BigInteger[][] m = new BigInteger[n][n];
        for (int i = 0; i < n; i++) {
            for (int j = 0; j < n; j++) {
                m[i][j] = gains[at.get(i)][at.get(j)];
            }
        }
        int rank = 0;
        int[] pivot = new int[n];
        int free = NONE;
        int frees = 0;
        for (int col = 0; col < n; col++) {
            int r = rank;
            while (r < n && m[r][col].signum() == 0) {
                r++;
            }
            if (r == n) {
                free = col;
                frees++;
                continue;
            }
            BigInteger[] swap = m[r];
            m[r] = m[rank];
            m[rank] = swap;
            for (int i = 0; i < n; i++) {
                if (i != rank && m[i][col].signum() != 0) {
                    BigInteger up = m[rank][col];
                    BigInteger down = m[i][col];
                    for (int j = 0; j < n; j++) {
                        m[i][j] = m[i][j].multiply(up).subtract(m[rank][j].multiply(down));
                    }
                }
            }
            pivot[rank++] = col;
        }
        if (frees != 1) {
            return null;
        }
        // m[r][pivot] s + m[r][free] t = 0 for each row, with t the product of all m[r][pivot].
        BigInteger product = BigInteger.ONE;
        for (int r = 0; r < rank; r++) {
            product = product.multiply(m[r][pivot[r]]);
        }
        BigInteger[] solution = new BigInteger[n];
        solution[free] = product;
        for (int r = 0; r < rank; r++) {
            solution[pivot[r]] = m[r][free].negate().multiply(product).divide(m[r][pivot[r]]);
        }
        return solution;
    }

    int lot(int k) {
        long[] shares = lots();
        if (shares == null || k < NONE || k >= shares.length) {
            return NONE;
        }
        return k == NONE ? (int) Arrays.stream(shares).sum() : (int) shares[k];
    }

    // ---- need, peace, make, join, doubt ----

    int need(int p) {
        if (places.size() < 2 || p != NONE && !has(p)) {
            return NONE;
        }
        if (p == NONE) {
            int best = 0;
            for (int q = 0; q < places.size(); q++) {
                best = need(q) < need(best) ? q : best;
            }
            return best;
        }
        int most = 0;
        for (int q = 0; q < places.size(); q++) {
            most = q == p ? most : Math.max(most, votes(q, p));
        }
        return most;
    }

    private boolean stands(List<Voter> people, Spot p) {
        return places.stream().noneMatch(q -> beats(people, q, p));
    }

    private int peace(List<Voter> people) {
        for (int p = 0; p < places.size(); p++) {
            if (stands(people, places.get(p))) {
                return p;
            }
        }
        return NONE;
    }

    int peace() {
        return peace(voters);
    }

    int make(int what) {
        int[] best = {NONE, NONE, NONE};
        for (int v = 0; v < voters.size(); v++) {
            for (int p = 0; p < places.size(); p++) {
                Voter who = voters.get(v);
                Spot to = places.get(p);
                int cost = who.weight * ((who.x - to.x) * (who.x - to.x) + (who.y - to.y) * (who.y - to.y));
                List<Voter> people = new ArrayList<>(voters);
                people.set(v, who.at(to.x, to.y));
                if ((best[2] == NONE || cost < best[2]) && peace(people) != NONE) {
                    best = new int[] {v, p, cost};
                }
            }
        }
        return what < 0 || what > 2 ? NONE : best[what];
    }

    int join(int place) {
        if (!has(place)) {
            return NONE;
        }
        int best = NONE;
        Spot to = places.get(place);
        for (int bits = 0; bits < 1 << Math.min(9, voters.size()); bits++) {
            List<Voter> people = new ArrayList<>(voters);
            for (int v = 0; v < 9; v++) {
                if ((bits >> v & 1) == 1) {
                    people.set(v, people.get(v).at(to.x, to.y));
                }
            }
            boolean fewer = best == NONE || Integer.bitCount(bits) < Integer.bitCount(best);
            if (fewer && stands(people, to)) {
                best = bits;
            }
        }
        return best;
    }

    int doubt(int place, int e) {
        if (!has(place) || e < 0 || e > 5) {
            return NONE;
        }
        Spot one = places.get(place);
        boolean sure = true;
        boolean not = false;
        for (int q = 0; q < places.size(); q++) {
            if (q == place) {
                continue;
            }
            Spot that = places.get(q);
            int canFor = 0;
            int canAgainst = 0;
            int justFor = 0;
            int justAgainst = 0;
            for (Voter v : voters) {
                boolean[] at = stances(v, one, that, e);
                boolean surelyOne = at[0] && !at[1] && !at[2];
                boolean alike = at[1] && !at[0] && !at[2];
                boolean surelyThat = at[2] && !at[0] && !at[1];
                canFor += !surelyOne && !alike ? v.weight : 0;
                canAgainst += surelyOne ? v.weight : 0;
                justFor += surelyThat ? v.weight : 0;
                justAgainst += !surelyThat && !alike ? v.weight : 0;
            }
            sure &= !enough(canFor, canAgainst);
            not |= enough(justFor, justAgainst);
        }
        return sure ? 2 : not ? 0 : 1;
    }

    private static boolean[] stances(Voter v, Spot one, Spot that, int e) {
        boolean[] seen = new boolean[3];
        for (int x = 0; x <= 99; x++) {
            for (int y = 0; y <= 99; y++) {
                if (Math.abs(x - v.x) <= e && Math.abs(y - v.y) <= e) {
                    Voter there = v.at(x, y);
                    seen[1 + Integer.signum(there.way(one.x, one.y) - there.way(that.x, that.y))] = true;
                }
            }
        }
        return seen;
    }

    // ---- moves ----

    private int pairs() {
        int n = 0;
        for (int i = 0; i < places.size(); i++) {
            for (int j = 0; j < places.size(); j++) {
                n += beats(i, j) ? 1 : 0;
            }
        }
        return n;
    }

    int move(int v, int x, int y) {
        if (v < 0 || v >= voters.size() || !point(x, y) || moves.size() == 40) {
            return NONE;
        }
        Voter who = voters.get(v);
        if (who.x == x && who.y == y) {
            return NONE;
        }
        int[] followed = {pairs(), 0, peace(), 0};
        voters.set(v, who.at(x, y));
        followed[1] = pairs();
        followed[3] = peace();
        moves.add(new Move(v, who.x, who.y, x, y, followed));
        return moves.size();
    }

    int undo() {
        if (moves.isEmpty()) {
            return NONE;
        }
        Move last = moves.remove(moves.size() - 1);
        voters.set(last.voter, voters.get(last.voter).at(last.fromX, last.fromY));
        return last.voter;
    }

    int moved(int k, int what) {
        if (k < 0 || k >= moves.size() || what < 0 || what > 8) {
            return NONE;
        }
        Move m = moves.get(k);
        return what > 4 ? m.followed[what - 5] : new int[] {m.voter, m.fromX, m.fromY, m.toX, m.toY}[what];
    }

    int count(int what) {
        return switch (what) {
            case 0 -> voters.size();
            case 1 -> places.size();
            case 2 -> all();
            case 3 -> moves.size();
            case 4 -> text.length;
            case 5 -> pairs();
            default -> NONE;
        };
    }
}
