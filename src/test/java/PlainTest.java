import java.util.Random;

/**
 * Every call on many sheets, compared with the literal model in Plain. The seeds are fixed, so that each run asks
 * the same; two numbers as arguments ask for other seeds (first, how many).
 */
public final class PlainTest {
    private final Due due;
    private final Random dice;
    private final MiddleSheet sheet = new MiddleSheet();
    private final Plain plain = new Plain();
    private final StringBuilder told = new StringBuilder();
    // Sheets on a small corner have many voters on one line, at one point, or equally far.
    private final int wide;
    private int calls;

    private PlainTest(Due due, long seed) {
        this.due = due;
        dice = new Random(seed);
        wide = new int[] {3, 5, 8, 20, 100}[dice.nextInt(5)];
        told.append("seed ").append(seed).append(": ");
    }

    public static void main(String[] args) {
        long first = args.length > 0 ? Long.parseLong(args[0]) : 1;
        long runs = args.length > 1 ? Long.parseLong(args[1]) : 600;
        Due due = new Due();
        for (long seed = first; seed < first + runs && !due.hasWrong(); seed++) {
            new PlainTest(due, seed).run();
        }
        due.close();
    }

    private void run() {
        if (dice.nextInt(4) == 0) {
            askSome(20);
        }
        for (int n = 0; n < 3 && calls < 300; n++) {
            tell(dice.nextInt(5) == 0 ? spoilt(text()) : text());
            askLines();
            askSome(70);
        }
    }

    private int roll(int bound) {
        return dice.nextInt(bound);
    }

    private int corner() {
        return wide == 100 || roll(30) > 0 ? roll(wide) : roll(100);
    }

    // ---- texts ----

    private String text() {
        StringBuilder s = new StringBuilder();
        int parts = 2 + roll(roll(2) == 0 ? 6 : 30);
        boolean won = false;
        int shift = roll(3) == 0 ? 100 - wide : 0;
        boolean crowd = roll(3) == 0;
        int kinds = roll(2) == 0 ? 6 : 10;
        for (int i = 0; i < parts; i++) {
            int kind = i == 0 ? 0 : roll(kinds);
            if (kind < 3) {
                s.append("voter ").append(shift(shift)).append(' ').append(shift(shift));
                if (roll(2) == 0) {
                    s.append(" by ").append(crowd ? 1 + roll(2) : 1 + roll(9));
                }
            } else if (kind < 6) {
                s.append("place ").append(shift(shift)).append(' ').append(shift(shift));
            } else if (kind < 8) {
                s.append("near ").append(new String[] {"crow", "street", "side", "line"}[roll(4)]);
            } else if (kind < 9 || won) {
                s.append("stretch ").append(1 + roll(9)).append(roll(2) == 0 ? " " : "\n").append(1 + roll(3));
            } else {
                won = true;
                s.append(bar());
            }
            s.append(roll(3) == 0 ? ";" : " ; ");
        }
        return s.length() > 600 ? s.substring(0, 600) : s.toString();
    }

    private int shift(int by) {
        return Math.min(99, corner() + by);
    }

    private String bar() {
        if (roll(4) == 0) {
            return "win more";
        }
        int a = 1 + roll(roll(2) == 0 ? 99 : 4);
        int b = Math.min(99, a + roll(a + 1));
        return "win " + (roll(2) == 0 ? "over " : "least ") + a + (roll(2) == 0 ? "/" : " / ") + b;
    }

    private String spoilt(String good) {
        StringBuilder s = new StringBuilder(good);
        int at = roll(s.length() + 1);
        String[] bits = {"voter 1 1;", "win more;", ";", "/", "x", "7", "A", "\t", "100", "by 10;", "win over 3/7;", "0"};
        switch (roll(4)) {
            case 0 -> s.setLength(at);
            case 1 -> s.insert(at, bits[roll(bits.length)]);
            case 2 -> s.delete(at, Math.min(s.length(), at + 1 + roll(4)));
            default -> s.append(bits[roll(bits.length)]);
        }
        return s.length() > 600 ? s.substring(0, 600) : s.toString();
    }

    private void tell(String text) {
        byte[] bytes = Due.bytes(text);
        both("end(0)", sheet.end(0), plain.end(0));
        for (int[] n : Due.numbersOf(bytes)) {
            both("feed", sheet.feed(n[0], n[1], n[2], n[3], n[4]), plain.feed(n));
        }
        both("end(" + bytes.length + ")", sheet.end(bytes.length), plain.end(bytes.length));
        told.append('[').append(text).append("] ");
        both("fault()", sheet.fault(), plain.fault());
        both("sheet()", sheet.sheet(), plain.sheet());
    }

    // ---- calls ----

    private void both(String call, long got, long want) {
        calls++;
        due.is(got == want ? call : told + call, got, want);
    }

    private void both(String call, boolean got, boolean want) {
        both(call, got ? 1L : 0L, want ? 1L : 0L);
    }

    private void askLines() {
        both("line(-1, 0)", sheet.line(-1, 0), plain.line(-1, 0));
        both("middle(-1, 0)", sheet.middle(-1, 0), plain.middle(-1, 0));
        for (int k = 0; k < 3; k++) {
            both("proof " + k, sheet.proof(k), plain.proof(k));
            both("middle 0 " + k, sheet.middle(0, k), plain.middle(0, k));
        }
        int last = plain.line(-1, 0) - 1;
        for (int what = 0; what < 3; what++) {
            both("line last " + what, sheet.line(last, what), plain.line(last, what));
        }
    }

    private void askSome(int n) {
        for (int i = 0; i < n && !due.hasWrong(); i++) {
            ask(roll(28));
        }
    }

    /** A number of a thing, now and then one that there isn't. */
    private int some(int bound) {
        return roll(8) == 0 ? new int[] {-1, -2, bound, 99, 100, Integer.MIN_VALUE, Integer.MAX_VALUE}[roll(7)]
                : roll(bound);
    }

    private int point() {
        return roll(20) == 0 ? some(100) : corner();
    }

    private int known(int bound) {
        return some(Math.max(1, bound));
    }

    private void ask(int kind) {
        int v = known(sheet.count(0));
        int p = known(sheet.count(1));
        int q = known(sheet.count(1));
        int x = point();
        int y = point();
        int k = some(4);
        int what = some(4);
        String at = "(" + x + ", " + y + ")";
        switch (kind) {
            case 0 -> both("voter " + v + " " + k, sheet.voter(v, k + 2), plain.voter(v, k + 2));
            case 1 -> both("place " + p + " " + what, sheet.place(p, what), plain.place(p, what));
            case 2, 3 -> {
                told.append("propose").append(at).append(' ');
                both("", sheet.propose(x, y), plain.propose(x, y));
            }
            case 4 -> both("way " + v + at, sheet.way(v, x, y), plain.way(v, x, y));
            case 5 -> both("votes " + p + " " + q, sheet.votes(p, q), plain.votes(p, q));
            case 6 -> both("beats " + p + " " + q, sheet.beats(p, q), plain.beats(p, q));
            case 7 -> {
                int one = some(10000);
                int other = corner() * 100 + corner();
                both("wins " + one + " " + other, sheet.wins(one, other), plain.wins(one, other));
                both("wins " + other + " " + one, sheet.wins(other, one), plain.wins(other, one));
            }
            case 8 -> {
                int l = known(sheet.line(-1, 0));
                both("line " + l + " " + what, sheet.line(l, what), plain.line(l, what));
            }
            case 9 -> {
                int m = known(sheet.middle(-1, 0));
                both("middle " + m + " " + what, sheet.middle(m, what), plain.middle(m, what));
            }
            case 10 -> both("proof " + k, sheet.proof(k), plain.proof(k));
            case 11 -> both("round " + k, sheet.round(k), plain.round(k));
            case 12 -> both("winSet" + at + what, sheet.winSet(x, y, what), plain.winSet(x, y, what));
            case 13 -> both("piece" + at + k + " " + what, sheet.piece(x, y, k, what), plain.piece(x, y, k, what));
            case 14 -> both("led " + p + " " + q + " " + k, sheet.led(p, q, k), plain.led(p, q, k));
            case 15 -> both("led " + p + " " + q + " -1", sheet.led(p, q, -1), plain.led(p, q, -1));
            case 16 -> both("best " + what, sheet.best(what), plain.best(what));
            case 17 -> both("between " + p + " " + q, sheet.between(p, q), plain.between(p, q));
            case 18 -> both("rest", sheet.rest(), plain.rest());
            case 19 -> {
                int l = some(8);
                both("lot " + l, sheet.lot(l), plain.lot(l));
                both("lot -1", sheet.lot(-1), plain.lot(-1));
            }
            case 20 -> both("need " + p, sheet.need(p), plain.need(p));
            case 21 -> both("most" + at, sheet.most(x, y), plain.most(x, y));
            case 22 -> both("peace", sheet.peace(), plain.peace());
            case 23 -> both("make " + what, sheet.make(what), plain.make(what));
            case 24 -> both("join " + p, sheet.join(p), plain.join(p));
            case 25 -> {
                int e = some(6);
                both("doubt " + p + " " + e, sheet.doubt(p, e), plain.doubt(p, e));
            }
            case 26 -> askMoves(v, x, y);
            default -> both("count " + k, sheet.count(k + 2), plain.count(k + 2));
        }
    }

    private void askMoves(int v, int x, int y) {
        if (roll(3) > 0) {
            told.append("move ").append(v).append(" (").append(x).append(", ").append(y).append(") ");
            both("", sheet.move(v, x, y), plain.move(v, x, y));
        } else {
            told.append("undo ");
            both("", sheet.undo(), plain.undo());
        }
        int k = known(sheet.count(3));
        for (int what = 0; what < 9; what++) {
            both("moved " + k + " " + what, sheet.moved(k, what), plain.moved(k, what));
        }
    }
}
