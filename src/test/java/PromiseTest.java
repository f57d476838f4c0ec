/** Each promise of the document by itself: ordinary inputs, the edges, wrong inputs. Answers worked out by hand. */
public final class PromiseTest {
    private static final int NONE = MiddleSheet.NONE;
    private static final int VOID = MiddleSheet.VOID;
    private static final int[] WRONG = {-2, 100, Integer.MIN_VALUE, Integer.MAX_VALUE};
    /** Three VOTERS whose votes go round in a ring over three PLACES. */
    private static final String RING =
            "place 0 0;place 30 0;place 15 26;voter 10 0;voter 25 9;voter 10 18;";

    private static final Due DUE = new Due();
    private static int promise;

    private PromiseTest() { }

    private static void due(String call, long got, long want) {
        DUE.is("promise " + promise + ": " + call, got, want);
    }

    private static void due(String call, boolean got, boolean want) {
        DUE.is("promise " + promise + ": " + call, got, want);
    }

    public static void main(String[] args) {
        newObject();
        feed();
        end();
        fault();
        faultOfOthersThere();
        faultOfBars();
        faultOfMany();
        sheet();
        voter();
        place();
        propose();
        way();
        votesAndBeats();
        bars();
        wins();
        line();
        middle();
        proof();
        round();
        winSet();
        piece();
        led();
        best();
        between();
        rest();
        lot();
        need();
        most();
        peace();
        make();
        join();
        doubt();
        move();
        undo();
        moved();
        count();
        DUE.close();
    }

    private static String times(int n, String part) {
        return part.repeat(n);
    }

    private static void newObject() {
        promise = 1;
        MiddleSheet m = new MiddleSheet();
        for (int what = 0; what <= 5; what++) {
            due("count(" + what + ")", m.count(what), 0);
        }
        due("voter", m.voter(0, 0), NONE);
        due("place", m.place(0, 0), NONE);
        due("votes", m.votes(0, 0), NONE);
        due("need(NONE)", m.need(NONE), NONE);
        due("make", m.make(2), NONE);
        due("join", m.join(0), NONE);
        due("rest", m.rest(), NONE);
        due("lot", m.lot(0), NONE);
        due("proof", m.proof(0), NONE);
        due("winSet", m.winSet(0, 0, 0), NONE);
        due("piece", m.piece(0, 0, 0, 0), NONE);
        due("wins", m.wins(0, 1), false);
        due("NONE", MiddleSheet.NONE, -1);
        due("VOID", MiddleSheet.VOID, Integer.MIN_VALUE);
    }

    private static void feed() {
        promise = 2;
        MiddleSheet m = new MiddleSheet();
        // "vote" "r 1 " "23 b" "y 4;" and four blanks.
        due("feed", m.feed(0x766f7465, 0x72203120, 0x32332062, 0x7920343b, 0x20202020), 20);
        due("sheet", m.sheet(), 1);
        due("x", m.voter(0, 0), 1);
        due("y", m.voter(0, 1), 23);
        due("weight", m.voter(0, 2), 4);
        for (int n = 1; n <= 30; n++) {
            due("feed " + n, m.feed(0, 0, 0, 0, 0), 20 * n);
        }
        due("feed beyond 600", m.feed(0, 0, 0, 0, 0), NONE);
        due("count(4)", m.count(4), 600);
        m.end(581);
        due("feed beyond 600 by one", m.feed(0, 0, 0, 0, 0), NONE);
        m.end(580);
        due("feed up to 600", m.feed(0, 0, 0, 0, 0), 600);
        MiddleSheet highest = new MiddleSheet();
        // A byte above 127 begins no TOKEN; a number below 0 is fed like others.
        highest.feed(0x20202020, 0x202020e1, -1, -1, -1);
        due("fault at the byte 225", highest.fault(), 7);
    }

    private static void end() {
        promise = 3;
        MiddleSheet m = new MiddleSheet();
        due("end(0) of nothing", m.end(0), true);
        due("end(1) of nothing", m.end(1), false);
        due("end(-1)", m.end(-1), false);
        Due.write(m, "voter 1 2;voter 3 4;");
        due("end(21)", m.end(21), false);
        due("end(least)", m.end(Integer.MIN_VALUE), false);
        due("end(greatest)", m.end(Integer.MAX_VALUE), false);
        due("count(4)", m.count(4), 20);
        due("end(20)", m.end(20), true);
        due("end(10)", m.end(10), true);
        due("count(4)", m.count(4), 10);
        due("end(11)", m.end(11), false);
        due("sheet", m.sheet(), 1);
    }

    private static void faultIs(String text, int want) {
        MiddleSheet m = new MiddleSheet();
        Due.write(m, text);
        due("fault of [" + text + "]", m.fault(), want);
        due("bytes behind fault", m.count(4), text.length());
        boolean good = want == NONE;
        due("sheet of [" + text + "]", m.sheet() != NONE, good);
        due("bytes behind sheet", m.count(4), good ? 0 : text.length());
    }

    private static void fault() {
        promise = 4;
        faultIs("", 0);
        faultIs(" \n ", 3);
        faultIs("voter 1 1;", NONE);
        faultIs("\n voter1 1;\n", NONE);
        faultIs("voter 0 99 by 9 ; place 99 0 ;", NONE);
        faultIs("voter 007 1;", NONE);
        faultIs("voter " + times(200, "0") + "9 1;", NONE);
        faultIs("voter 4294967296 1;", 6);
        faultIs("voter 100 1;", 6);
        faultIs("voter 1 100;", 8);
        faultIs("place 100 1;voter 1 1;", 6);
        faultIs("voterz 1 1;", 0);
        faultIs("voter 1;", 7);
        faultIs("voter 1 1", 9);
        faultIs("voter 1 1 ", 10);
        faultIs("voter 1 1 by", 12);
        faultIs("voter 1 1 by 0;", 13);
        faultIs("voter 1 1 by 10;", 13);
        faultIs("voter 1 1 by;", 12);
        faultIs("voter 1 1 by 1 1;", 15);
        faultIs("voter 1 1 in 1;", 10);
        faultIs("voter 1 1;;", 10);
        faultIs("voter 1 1/", 9);
        faultIs("votes 1 1;", 0);
        faultIs("vote", 0);
        faultIs("Voter 1 1;", 0);
        faultIs("voter 1 1;\t", 10);
        faultIs("voter 1 1; $", 11);
        faultIs("voter x $", 6);
        faultIs("voter 1, 1;", 7);
        faultIs("voter -1 1;", 6);
        faultIs("place 1 1;", 10);
        faultIs("place 1 100;voter 1 1;", 8);
        faultIs("near crow;near street;near side;near line;voter 1 1;", NONE);
        faultIs("near;", 4);
        faultIs("near near;", 5);
        faultIs("nearcrow;", 0);
        faultIs("near crows;", 5);
        faultIs("near side 1;", 10);
        faultIs("stretch 1 9;voter 1 1;", NONE);
        faultIs("stretch 0 1;", 8);
        faultIs("stretch 1 10;", 10);
        faultIs("stretch 1;", 9);
        faultIs("by 1;", 0);
        faultIs("7", 0);
    }

    /** A TOKEN that can't stand there is the FAULT, though it could begin what comes next. */
    private static void faultOfOthersThere() {
        String other = "voter 1 1;";
        String[] broken = {"near ", "near side ", "stretch ", "stretch 1 ", "stretch 1 1 ", "voter ", "voter 1 ",
            "voter 1 1 ", "voter 1 1 by ", "voter 1 1 by 1 ", "place ", "place 1 ", "place 1 1 ", "win ", "win more ",
            "win over ", "win over 1 ", "win over 1 / ", "win least 1 / 1 "};
        for (String start : broken) {
            faultIs(start + other, start.length());
            faultIs(start, start.length());
        }
    }

    private static void faultOfBars() {
        faultIs("win more;voter 1 1;", NONE);
        faultIs("win over 1/2;voter 1 1;", NONE);
        faultIs("win least 99 / 99;voter 1 1;", NONE);
        faultIs("win over 50/99;voter 1 1;", NONE);
        faultIs("win over 49/99;voter 1 1;", 12);
        faultIs("win over 1/3;", 11);
        faultIs("win over 2/1;", 11);
        faultIs("win over 0/1;", 9);
        faultIs("win over 100/100;", 9);
        faultIs("win over 99/100;", 12);
        faultIs("win over 1 2;", 11);
        faultIs("win over 1/;", 11);
        faultIs("win 1/2;", 4);
        faultIs("win more 1/2;", 9);
        faultIs("win;", 3);
        faultIs("win more;voter 1 1;win more;", 19);
        faultIs("win least 1/", 12);
    }

    private static void faultOfMany() {
        faultIs(times(15, "voter 1 1;"), NONE);
        faultIs(times(16, "voter 1 1;"), 150);
        faultIs(times(15, "voter 1 1;") + "voter ? ", 150);
        faultIs("voter 1 1;" + times(20, "place 1 1;"), NONE);
        faultIs("voter 1 1;" + times(21, "place 1 1;"), 210);
        faultIs(times(60, "voter 1 1;").substring(0, 150) + times(45, "near line;").substring(0, 450), NONE);
    }

    private static void sheet() {
        promise = 5;
        MiddleSheet m = Due.of("near line;stretch 2 3;win over 2/3;voter 1 1;voter 2 2;place 1 1;place 2 2;");
        m.move(0, 5, 5);
        m.propose(9, 9);
        Due.write(m, "voter 4 4 by 3;;");
        due("sheet with a FAULT", m.sheet(), NONE);
        due("text stays", m.count(4), 16);
        due("VOTERS stay", m.count(0), 2);
        due("PLACES stay", m.count(1), 3);
        due("MOVES stay", m.count(3), 1);
        due("x stays", m.voter(0, 0), 5);
        m.end(15);
        due("sheet", m.sheet(), 1);
        due("text", m.count(4), 0);
        due("PLACES", m.count(1), 0);
        due("WEIGHTS", m.count(2), 3);
        due("MOVES", m.count(3), 0);
        due("undo", m.undo(), NONE);
        due("measure at first", m.voter(0, 3), 0);
        due("stretch at first", m.voter(0, 4), 1);
        due("place", m.place(0, 0), NONE);
        due("peace", m.peace(), NONE);
        m.propose(4, 4);
        m.propose(5, 5);
        due("win more without", m.beats(0, 1), true);
        due("empty text", m.sheet(), NONE);
        due("still there", m.count(0), 1);
    }

    private static void voter() {
        promise = 6;
        MiddleSheet m = Due.of("voter 1 2;near street;stretch 3 4;voter 5 6 by 7;near side;voter 0 99;"
                + "stretch 9 1;near line;voter 8 8 by 1;near crow;voter 9 9;");
        int[][] want = {{1, 2, 1, 0, 1, 1}, {5, 6, 7, 1, 3, 4}, {0, 99, 1, 2, 3, 4}, {8, 8, 1, 3, 9, 1}, {9, 9, 1, 0, 9, 1}};
        for (int v = 0; v < want.length; v++) {
            for (int what = 0; what < 6; what++) {
                due("voter(" + v + ", " + what + ")", m.voter(v, what), want[v][what]);
            }
        }
        due("voter(5, 0)", m.voter(5, 0), NONE);
        due("voter(0, 6)", m.voter(0, 6), NONE);
        due("voter(0, -1)", m.voter(0, -1), NONE);
        for (int wrong : WRONG) {
            due("voter(" + wrong + ", 0)", m.voter(wrong, 0), NONE);
            due("voter(0, " + wrong + ")", m.voter(0, wrong), NONE);
        }
        m.move(1, 50, 51);
        due("x behind a MOVE", m.voter(1, 0), 50);
        due("y behind a MOVE", m.voter(1, 1), 51);
    }

    private static void place() {
        promise = 7;
        MiddleSheet m = Due.of("place 1 2;voter 0 0;place 99 0;");
        due("place(0, 0)", m.place(0, 0), 1);
        due("place(0, 1)", m.place(0, 1), 2);
        due("place(1, 0)", m.place(1, 0), 99);
        due("place(1, 1)", m.place(1, 1), 0);
        due("place(2, 0)", m.place(2, 0), NONE);
        due("place(0, 2)", m.place(0, 2), NONE);
        due("place(-1, 0)", m.place(-1, 0), NONE);
        due("place(0, -1)", m.place(0, -1), NONE);
    }

    private static void propose() {
        promise = 8;
        MiddleSheet m = new MiddleSheet();
        due("without VOTERS", m.propose(1, 1), NONE);
        Due.write(m, "voter 1 1;place 2 2;");
        m.sheet();
        due("x 100", m.propose(100, 0), NONE);
        due("y 100", m.propose(0, 100), NONE);
        due("x -1", m.propose(-1, 0), NONE);
        due("y -1", m.propose(0, -1), NONE);
        for (int n = 1; n < 20; n++) {
            due("propose " + n, m.propose(99, n), n);
        }
        due("the 21st", m.propose(1, 1), NONE);
        due("count(1)", m.count(1), 20);
        due("x", m.place(19, 0), 99);
        due("y", m.place(19, 1), 19);
    }

    private static void way() {
        promise = 9;
        MiddleSheet m = Due.of("stretch 2 3;voter 10 10;near street;voter 10 10;near side;voter 10 10;near line;voter 10 10;");
        due("crow", m.way(0, 6, 15), 64 + 225);
        due("street", m.way(1, 6, 15), 8 + 15);
        due("side", m.way(2, 6, 15), 15);
        due("side, the other", m.way(2, 2, 11), 16);
        due("line", m.way(3, 6, 15), 8);
        due("line, same x", m.way(3, 10, 99), 0);
        due("there", m.way(0, 10, 10), 0);
        due("no VOTER", m.way(4, 1, 1), NONE);
        due("VOTER -1", m.way(-1, 1, 1), NONE);
        due("no POINT", m.way(0, 100, 0), NONE);
        due("no POINT", m.way(0, 0, -1), NONE);
        MiddleSheet far = Due.of("stretch 9 9;voter 0 0;");
        due("farthest", far.way(0, 99, 99), 2 * 891 * 891);
    }

    private static void votesAndBeats() {
        promise = 10;
        MiddleSheet m = Due.of("voter 0 0 by 3;voter 9 0 by 2;voter 5 0 by 4;place 1 0;place 9 0;place 9 0;");
        due("votes(0, 1)", m.votes(0, 1), 3);
        due("votes(1, 0)", m.votes(1, 0), 2);
        due("votes of one POINT", m.votes(1, 2), 0);
        due("votes(0, 3)", m.votes(0, 3), NONE);
        due("votes(3, 0)", m.votes(3, 0), NONE);
        due("votes(-1, 0)", m.votes(-1, 0), NONE);
        due("votes(0, -1)", m.votes(0, -1), NONE);
        promise = 11;
        due("beats(0, 1)", m.beats(0, 1), true);
        due("beats(1, 0)", m.beats(1, 0), false);
        due("beats(1, 2)", m.beats(1, 2), false);
        due("beats(0, 0)", m.beats(0, 0), false);
        due("beats(0, 3)", m.beats(0, 3), false);
        due("beats(-1, 0)", m.beats(-1, 0), false);
        due("beats(greatest, 0)", m.beats(Integer.MAX_VALUE, 0), false);
        m.move(2, 0, 5);
        due("votes behind a MOVE", m.votes(0, 1), 7);
    }

    /** FOR 4, AGAINST 2 and 2 alike of 8, under all bars near to that. */
    private static void bars() {
        promise = 11;
        String sheet = "voter 0 0 by 4;voter 9 0 by 2;voter 5 0 by 2;place 1 0;place 9 0;";
        String[] bars = {"more", "over 1/2", "over 49/99", "least 1/2", "least 4/7", "least 50/99", "over 1/1", "least 1/1"};
        int[] beats = {1, 0, 0, 1, 0, 0, 0, 0};
        for (int i = 0; i < bars.length; i++) {
            MiddleSheet m = new MiddleSheet();
            Due.write(m, sheet + "win " + bars[i] + ";");
            boolean stands = m.sheet() != NONE;
            due("sheet with " + bars[i], stands, i != 2);
            due("beats with " + bars[i], m.beats(0, 1), beats[i] == 1);
        }
        MiddleSheet tie = Due.of("win least 1/2;voter 0 0;voter 9 0;place 0 0;place 9 0;");
        due("least a half isn't above AGAINST", tie.beats(0, 1), false);
        MiddleSheet whole = Due.of("win least 1/1;voter 0 0;voter 1 0;place 0 0;place 9 0;");
        due("least all", whole.beats(0, 1), true);
    }

    private static void wins() {
        promise = 12;
        MiddleSheet m = Due.of("voter 0 0;voter 0 99;voter 99 99;");
        due("(0, 98) against (99, 0)", m.wins(98, 9900), true);
        due("(99, 0) against (0, 98)", m.wins(9900, 98), false);
        due("one POINT", m.wins(5, 5), false);
        due("9999", m.wins(99, 9999), true);
        due("10000", m.wins(99, 10000), false);
        due("-1", m.wins(99, -1), false);
        due("10000 first", m.wins(10000, 9900), false);
        due("-1 first", m.wins(-1, 9900), false);
    }

    private static void lineIs(MiddleSheet m, int k, int a, int b, int c) {
        due("line(" + k + ", 0)", m.line(k, 0), a);
        due("line(" + k + ", 1)", m.line(k, 1), b);
        due("line(" + k + ", 2)", m.line(k, 2), c);
    }

    private static void line() {
        promise = 13;
        // A square: the diagonals have one VOTER on each side, the edges two on one side, which is half.
        MiddleSheet m = Due.of("voter 2 2;voter 6 2;voter 6 6;voter 2 6;");
        due("how many", m.line(NONE, 0), 6);
        lineIs(m, 0, 1, -1, 0);
        lineIs(m, 1, 1, 0, 2);
        lineIs(m, 2, 1, 0, 6);
        lineIs(m, 3, 1, 1, 8);
        lineIs(m, 4, 0, 1, 2);
        lineIs(m, 5, 0, 1, 6);
        due("line(6, 0)", m.line(6, 0), VOID);
        due("line(-2, 0)", m.line(-2, 0), VOID);
        due("line(0, 3)", m.line(0, 3), VOID);
        due("line(0, -1)", m.line(0, -1), VOID);
        MiddleSheet heavy = Due.of("voter 2 2 by 4;voter 6 2;voter 6 6;voter 2 6;");
        due("all through the heavy one", heavy.line(NONE, 0), 3);
        MiddleSheet row = Due.of("voter 0 0;voter 2 1;voter 4 2;voter 4 2;");
        due("told once", row.line(NONE, 0), 1);
        lineIs(row, 0, 1, -2, 0);
        due("one POINT", Due.of("voter 5 5;voter 5 5;").line(NONE, 0), 0);
        due("steep ones", Due.of("voter 0 0;voter 1 99;").line(0, 1), -1);
        // The directions 1 / -3 and 1 / -2 by their exact order, c of one direction from the least on.
        MiddleSheet turning = Due.of("voter 0 0;voter 3 1;voter 6 3;voter 0 9;voter 9 0;");
        int lines = turning.line(NONE, 0);
        for (int k = 0; k + 1 < lines; k++) {
            long left = (long) turning.line(k, 1) * turning.line(k + 1, 0);
            long right = (long) turning.line(k + 1, 1) * turning.line(k, 0);
            due("in order " + k, turning.line(k + 1, 0) == 0 || left < right, true);
        }
    }

    private static void middleIs(MiddleSheet m, int k, int x, int y, int n) {
        due("middle(" + k + ", 0)", m.middle(k, 0), x);
        due("middle(" + k + ", 1)", m.middle(k, 1), y);
        due("middle(" + k + ", 2)", m.middle(k, 2), n);
    }

    private static void middle() {
        promise = 14;
        MiddleSheet square = Due.of("voter 2 2;voter 6 2;voter 6 6;voter 2 6;");
        due("how many", square.middle(NONE, 0), 1);
        middleIs(square, 0, 4, 4, 1);
        due("middle(1, 0)", square.middle(1, 0), VOID);
        due("middle(0, 3)", square.middle(0, 3), VOID);
        due("middle(-2, 0)", square.middle(-2, 0), VOID);
        // Diagonals from (0, 0) to (3, 2) and from (0, 1) to (2, 0): 2 x = 3 y, x + 2 y = 2.
        MiddleSheet skew = Due.of("voter 0 0;voter 3 2;voter 0 1;voter 2 0;");
        due("how many", skew.middle(NONE, 0), 1);
        middleIs(skew, 0, 6, 4, 7);
        MiddleSheet pair = Due.of("voter 6 2;voter 2 6;");
        due("how many of two", pair.middle(NONE, 0), 2);
        middleIs(pair, 0, 2, 6, 1);
        middleIs(pair, 1, 6, 2, 1);
        MiddleSheet one = Due.of("voter 7 8 by 3;");
        due("how many of one", one.middle(NONE, 0), 1);
        middleIs(one, 0, 7, 8, 1);
        MiddleSheet same = Due.of("voter 0 0;voter 0 0;");
        due("told once", same.middle(NONE, 0), 1);
        middleIs(same, 0, 0, 0, 1);
        MiddleSheet row = Due.of("voter 0 0;voter 1 1;voter 5 5;");
        due("of a row", row.middle(NONE, 0), 1);
        middleIs(row, 0, 1, 1, 1);
        due("of three", Due.of("voter 0 0;voter 4 0;voter 0 4;").middle(NONE, 0), 0);
        MiddleSheet edge = Due.of("voter 4 4 by 3;voter 0 0;voter 9 1;voter 1 9;");
        due("one has half", edge.middle(NONE, 0), 1);
        middleIs(edge, 0, 4, 4, 1);
    }

    private static void proof() {
        promise = 15;
        MiddleSheet three = Due.of("voter 0 0;voter 4 0;voter 0 4;");
        for (int k = 0; k < 3; k++) {
            due("proof(" + k + ")", three.proof(k), k);
        }
        due("proof(3)", three.proof(3), NONE);
        due("proof(-1)", three.proof(-1), NONE);
        MiddleSheet square = Due.of("voter 2 2;voter 6 2;voter 6 6;voter 2 6;");
        due("with a MIDDLE", square.proof(0), NONE);
        // Five in a ring: the first three lines meet in no place.
        MiddleSheet five = Due.of("voter 0 5;voter 5 0;voter 9 4;voter 7 9;voter 2 9;");
        due("five lines", five.line(NONE, 0), 5);
        due("first", five.proof(0), 0);
        due("second", five.proof(1), 1);
        due("third", five.proof(2), 2);
    }

    private static void round() {
        promise = 16;
        MiddleSheet three = Due.of("voter 0 0;voter 4 0;voter 0 4;");
        int[] want = {1, 1, 2, 1, NONE};
        for (int what = 0; what < 5; what++) {
            due("round(" + what + ")", three.round(what), want[what]);
        }
        due("round(-1)", three.round(-1), NONE);
        MiddleSheet none = Due.of("voter 7 7;");
        int[] without = {0, 0, 0, 1};
        for (int what = 0; what < 4; what++) {
            due("without lines " + what, none.round(what), without[what]);
        }
        // One line 1 x = 50: the first POINT on it.
        MiddleSheet one = Due.of("voter 50 10;voter 50 90;");
        int[] first = {50, 0, 0, 1};
        for (int what = 0; what < 4; what++) {
            due("one line " + what, one.round(what), first[what]);
        }
        // The edges x = 2 and 7, y = 2 and 7: 3 from the farther one at best, first at (4, 4).
        MiddleSheet square = Due.of("voter 2 2;voter 7 2;voter 7 7;voter 2 7;");
        int[] like = {4, 4, 9, 1};
        for (int what = 0; what < 4; what++) {
            due("of like ones the first " + what, square.round(what), like[what]);
        }
        // x = 0, x + y = 1 and y = 0: at (0, 0) the farthest has 1 by 2, as at no other POINT.
        MiddleSheet small = Due.of("voter 0 0;voter 1 0;voter 0 1;");
        int[] parts = {0, 0, 1, 2};
        for (int what = 0; what < 4; what++) {
            due("p by q " + what, small.round(what), parts[what]);
        }
    }

    private static void winSet() {
        promise = 17;
        MiddleSheet m = Due.of("voter 0 0;voter 4 0;voter 0 4;");
        due("POINTS", m.winSet(1, 1, 0), 3);
        due("PIECES", m.winSet(1, 1, 1), 3);
        due("other", m.winSet(1, 1, 2), NONE);
        due("other", m.winSet(1, 1, -1), NONE);
        due("no POINT", m.winSet(100, 1, 0), NONE);
        due("no POINT", m.winSet(1, -1, 0), NONE);
        MiddleSheet one = Due.of("voter 50 50;");
        due("nobody beats his POINT", one.winSet(50, 50, 0), 0);
        due("no PIECES", one.winSet(50, 50, 1), 0);
        due("four nearer", one.winSet(50, 51, 0), 1);
        due("all but three", one.winSet(0, 0, 0), 10000 - 1);
        due("a disc", one.winSet(50, 52, 0), 9);
        due("one PIECE", one.winSet(50, 52, 1), 1);
        MiddleSheet column = Due.of("near line;voter 50 50;");
        due("a column", column.winSet(51, 7, 0), 100);
        MiddleSheet street = Due.of("near street;stretch 1 2;voter 50 50;");
        // 2 dx + .. below 4: dx 0 .. 3 with dy 0, dx 0 .. 1 with dy 1.
        due("street", street.winSet(54, 50, 0), 7 + 6);
        MiddleSheet side = Due.of("near side;voter 0 0;");
        due("side at the corner", side.winSet(3, 0, 0), 9);
        due("ahead of a MOVE", m.winSet(2, 2, 0) > 0, true);
        m.move(0, 2, 2);
        due("behind a MOVE", m.winSet(2, 2, 0), 0);
    }

    private static void piece() {
        promise = 18;
        MiddleSheet m = Due.of("voter 0 0;voter 4 0;voter 0 4;");
        int[][] want = {{0, 1, 1}, {1, 0, 1}, {2, 2, 1}};
        for (int k = 0; k < 3; k++) {
            for (int what = 0; what < 3; what++) {
                due("piece " + k + " " + what, m.piece(1, 1, k, what), want[k][what]);
            }
        }
        due("k 3", m.piece(1, 1, 3, 0), NONE);
        due("k -1", m.piece(1, 1, -1, 0), NONE);
        due("k greatest", m.piece(1, 1, Integer.MAX_VALUE, 0), NONE);
        due("what 3", m.piece(1, 1, 0, 3), NONE);
        due("what -1", m.piece(1, 1, 0, -1), NONE);
        due("no POINT", m.piece(1, 100, 0, 0), NONE);
        MiddleSheet disc = Due.of("voter 50 50;");
        due("x", disc.piece(50, 52, 0, 0), 49);
        due("y", disc.piece(50, 52, 0, 1), 49);
        due("size", disc.piece(50, 52, 0, 2), 9);
        MiddleSheet whole = Due.of("voter 99 99;");
        due("all but one", whole.piece(0, 0, 0, 2), 9999);
        due("from (0, 1)", whole.piece(0, 0, 0, 1), 1);
        due("BETWEEN leaves PIECES alone", whole.propose(0, 0) + whole.propose(99, 99), 1);
        due("between", whole.between(0, 1), 1);
        due("all but one, still", whole.piece(0, 0, 0, 2), 9999);
        due("between, still", whole.between(0, 1), 1);
    }

    private static void led() {
        promise = 19;
        MiddleSheet m = Due.of(RING);
        due("0 beats 1", m.beats(0, 1), true);
        due("1 beats 2", m.beats(1, 2), true);
        due("2 beats 0", m.beats(2, 0), true);
        due("votes from 0 to 1", m.led(0, 1, NONE), 2);
        due("0 of it", m.led(0, 1, 0), 0);
        due("1 of it", m.led(0, 1, 1), 2);
        due("2 of it", m.led(0, 1, 2), 1);
        due("3 of it", m.led(0, 1, 3), NONE);
        due("-2 of it", m.led(0, 1, -2), NONE);
        due("to itself", m.led(1, 1, NONE), 0);
        due("0 of that", m.led(1, 1, 0), 1);
        due("1 of that", m.led(1, 1, 1), NONE);
        due("greatest of it", m.led(0, 1, Integer.MAX_VALUE), NONE);
        m.propose(99, 99);
        due("can't be", m.led(0, 3, NONE), NONE);
        due("0 of what can't be", m.led(0, 3, 0), NONE);
        due("no PLACE", m.led(4, 0, NONE), NONE);
        due("no PLACE", m.led(0, -1, NONE), NONE);
        // Two shortest rows: by the PLACE with the lesser number. 3 is where 2 is, so both BEAT 0 and lead to 1.
        MiddleSheet two = Due.of("place 0 0;place 30 0;place 15 26;place 15 26;voter 10 0;voter 25 9;voter 10 18;");
        due("by the lesser", two.led(0, 1, 1), 2);
    }

    private static void best() {
        promise = 20;
        MiddleSheet m = Due.of(RING);
        due("TOP", m.best(0), 7);
        due("OPEN", m.best(1), 7);
        m.propose(99, 99);
        due("TOP without the last", m.best(0), 7);
        due("OPEN without the last", m.best(1), 7);
        due("others", m.best(2), NONE);
        due("others", m.best(-1), NONE);
        MiddleSheet one = Due.of("voter 1 1;place 2 2;");
        due("the only one is TOP", one.best(0), 1);
        due("the only one is OPEN", one.best(1), 1);
        due("no PLACES", Due.of("voter 1 1;").best(0), 0);
        // Nobody BEATS where both are alike: none REACHES all, none is COVERED.
        MiddleSheet alike = Due.of("voter 5 5;place 4 5;place 6 5;");
        due("TOP of alike ones", alike.best(0), 0);
        due("OPEN of alike ones", alike.best(1), 3);
        MiddleSheet row = Due.of("voter 5 5;place 5 9;place 5 7;place 5 6;");
        due("TOP of a row", row.best(0), 4);
        due("OPEN of a row", row.best(1), 4);
    }

    private static void between() {
        promise = 21;
        MiddleSheet m = Due.of("voter 5 5;place 5 9;place 5 6;place 5 5;place 9 5;");
        // Nearer than 4, farther than 1, the least x, then y.
        due("from 9 to 6", m.between(0, 1), 2 * 100 + 3);
        due("from 6 to 9", m.between(1, 0), NONE);
        due("one as near as the other", m.between(0, 3), NONE);
        due("from 6 to 5", m.between(1, 2), NONE);
        due("of one PLACE", m.between(0, 0), NONE);
        due("no PLACE", m.between(4, 0), NONE);
        due("no PLACE", m.between(0, -1), NONE);
    }

    private static void rest() {
        promise = 22;
        due("in a ring", Due.of(RING).rest(), NONE);
        due("without PLACES", Due.of("voter 1 1;").rest(), NONE);
        due("the least", Due.of("voter 5 5;place 5 9;place 5 6;place 6 5;").rest(), 1);
        due("the only one", Due.of("voter 5 5;place 9 9;").rest(), 0);
        // The ninth PLACE would be nearer to all, but isn't of the first 8.
        MiddleSheet nine = Due.of("voter 5 5;" + times(7, "place 9 9;") + "place 8 8;place 5 5;");
        due("of the first 8", nine.rest(), 7);
        // The bar is nothing to it: FOR 2 against 1 is a gain.
        MiddleSheet bar = Due.of("win over 2/3;voter 0 0;voter 0 0;voter 9 0;place 9 0;place 0 0;");
        due("PEACE by the bar", bar.peace(), 0);
        due("REST without the bar", bar.rest(), 1);
    }

    private static void lot() {
        promise = 23;
        MiddleSheet m = Due.of(RING);
        due("sum", m.lot(NONE), 3);
        for (int k = 0; k < 3; k++) {
            due("share " + k, m.lot(k), 1);
        }
        due("share 3", m.lot(3), NONE);
        due("share -2", m.lot(-2), NONE);
        // Each share is the gain of the second of the others against the first, or the first against the second.
        MiddleSheet heavy = Due.of("place 0 0;place 30 0;place 15 26;voter 10 0 by 4;voter 25 9 by 3;voter 10 18 by 2;");
        int g01 = heavy.votes(0, 1) - heavy.votes(1, 0);
        int g12 = heavy.votes(1, 2) - heavy.votes(2, 1);
        int g20 = heavy.votes(2, 0) - heavy.votes(0, 2);
        due("0 against 1", g01, 3);
        due("1 against 2", g12, 5);
        due("2 against 0", g20, 1);
        due("sum of the heavy", heavy.lot(NONE), 9);
        due("share of 0", heavy.lot(0), 5);
        due("share of 1", heavy.lot(1), 1);
        due("share of 2", heavy.lot(2), 3);
        MiddleSheet rest = Due.of("voter 5 5;place 5 9;place 5 6;place 6 5;");
        due("REST alone", rest.lot(NONE), 1);
        due("of like ones the least bits", rest.lot(1), 1);
        due("no share", rest.lot(2), 0);
        due("without PLACES", Due.of("voter 1 1;").lot(NONE), NONE);
        MiddleSheet nine = Due.of("voter 5 5;" + times(8, "place 9 9;") + "place 5 5;");
        due("of the first 8", nine.lot(0), 1);
        due("share 7", nine.lot(7), 0);
        due("share 8", nine.lot(8), NONE);
        // Each of four gains 1 against the next one and nothing against the one across: any shares of two across have
        // gains 0 there, and three or four of them have no shares above 0, or many.
        MiddleSheet four = Due.of("voter 2 1;voter 0 0;voter 0 2;place 1 2;place 2 2;place 1 0;place 2 0;");
        for (int i = 0; i < 4; i++) {
            due("gain of " + i + " against the next", four.votes(i, (i + 1) % 4) - four.votes((i + 1) % 4, i), 1);
            due("gain of " + i + " across", four.votes(i, (i + 2) % 4) - four.votes((i + 2) % 4, i), 0);
        }
        due("no LOTS of a ring of four", four.lot(NONE), NONE);
        // At PLACES 2 and 3 many shares are possible, and just one is nowhere.
        MiddleSheet many = Due.of("voter 4 0 by 2;voter 1 2;voter 0 4 by 2;near street;voter 4 4 by 2;voter 4 3 by 2;"
                + "voter 0 2 by 2;voter 0 3 by 2;voter 3 2;near side;voter 2 0;"
                + "place 0 0;place 4 1;place 4 3;place 0 3;place 3 1;");
        due("no such LOTS", many.lot(NONE), NONE);
        due("no share of such", many.lot(2), NONE);
        due("no REST then", many.rest(), NONE);
    }

    private static void need() {
        promise = 24;
        MiddleSheet m = Due.of("voter 0 0 by 2;voter 9 0 by 3;voter 5 0 by 4;place 0 0;place 9 0;place 5 0;");
        due("of 0", m.need(0), 7);
        due("of 1", m.need(1), 6);
        due("of 2", m.need(2), 3);
        due("LEAST NEED", m.need(NONE), 2);
        due("no PLACE", m.need(3), NONE);
        due("no PLACE", m.need(-2), NONE);
        MiddleSheet one = Due.of("voter 1 1;place 2 2;");
        due("the only one", one.need(0), NONE);
        due("LEAST of the only one", one.need(NONE), NONE);
        one.propose(2, 2);
        due("of like ones the least", one.need(NONE), 0);
        due("nobody against it", one.need(1), 0);
    }

    private static void most() {
        promise = 25;
        MiddleSheet m = Due.of("voter 0 0 by 2;voter 9 0 by 3;voter 5 0 by 4;");
        due("at (5, 0)", m.most(5, 0), 3);
        due("at (9, 0)", m.most(9, 0), 6);
        due("at (99, 99)", m.most(99, 99), 9);
        due("no POINT", m.most(100, 0), NONE);
        due("no POINT", m.most(0, -1), NONE);
        due("of one VOTER there", Due.of("voter 3 3;").most(3, 3), 0);
    }

    private static void peace() {
        promise = 26;
        due("in a ring", Due.of(RING).peace(), NONE);
        due("without PLACES", Due.of("voter 1 1;").peace(), NONE);
        due("the only one", Due.of("voter 1 1;place 9 9;").peace(), 0);
        due("the least", Due.of("voter 5 5;place 9 9;place 5 4;place 5 6;").peace(), 1);
        due("by the bar", Due.of("win over 2/3;" + RING).peace(), 0);
        due("least 2 of 3", Due.of("win least 2/3;" + RING).peace(), NONE);
    }

    private static void make() {
        promise = 27;
        MiddleSheet m = Due.of(RING);
        due("PEACE if 0 comes to 1", peaceBehind(RING, 0, 1), true);
        due("no PEACE if 0 comes to 0", peaceBehind(RING, 0, 0), false);
        // From (10, 18) to (15, 26).
        int[] want = {2, 2, 25 + 64};
        int[] tried = cheapest(RING, 3, 3);
        for (int what = 0; what < 3; what++) {
            due("make(" + what + ")", m.make(what), want[what]);
            due("tried move by move", m.make(what), tried[what]);
        }
        // From (9, 0) to (0, 0) is 81, but the ring stays.
        String nearer = RING.replace("voter 10 0;", "voter 9 0;");
        for (int what = 0; what < 3; what++) {
            due("not the nearest PLACE " + what, Due.of(nearer).make(what), want[what]);
        }
        due("others", m.make(3), NONE);
        due("others", m.make(-1), NONE);
        due("without PLACES", Due.of("voter 1 1;").make(0), NONE);
        MiddleSheet there = Due.of("voter 9 9;voter 5 5 by 9;voter 1 1;place 5 5;");
        due("who is there already", there.make(0), 1);
        due("his PLACE", there.make(1), 0);
        due("costs nothing", there.make(2), 0);
        MiddleSheet weighs = Due.of("voter 9 5 by 2;voter 5 9;voter 5 1;place 5 5;");
        due("by WEIGHT, the least VOTER", weighs.make(0), 1);
        due("16 times 1", weighs.make(2), 16);
    }

    private static boolean peaceBehind(String text, int voter, int place) {
        MiddleSheet m = Due.of(text);
        m.move(voter, m.place(place, 0), m.place(place, 1));
        return m.peace() != NONE;
    }

    private static int[] cheapest(String text, int voters, int places) {
        MiddleSheet m = Due.of(text);
        int[] best = {NONE, NONE, NONE};
        for (int v = 0; v < voters; v++) {
            for (int p = 0; p < places; p++) {
                int dx = m.voter(v, 0) - m.place(p, 0);
                int dy = m.voter(v, 1) - m.place(p, 1);
                int cost = (dx * dx + dy * dy) * m.voter(v, 2);
                if (peaceBehind(text, v, p) && (best[2] == NONE || cost < best[2])) {
                    best = new int[] {v, p, cost};
                }
            }
        }
        return best;
    }

    private static void join() {
        promise = 28;
        MiddleSheet m = Due.of(RING);
        due("PLACE 0", m.join(0), 2);
        due("no PLACE", m.join(3), NONE);
        due("no PLACE", m.join(-1), NONE);
        MiddleSheet five = Due.of(times(5, "voter 0 0;") + "place 9 9;place 0 0;");
        due("two of five don't make it, three do", five.join(0), 7);
        due("nobody is needed", five.join(1), 0);
        MiddleSheet four = Due.of(times(4, "voter 0 0;") + "place 9 9;place 0 0;");
        due("two of four make it", four.join(0), 3);
        MiddleSheet heavy = Due.of("voter 0 0;voter 0 0;voter 0 0 by 5;voter 0 0;place 9 9;place 0 0;");
        due("the fewest", heavy.join(0), 4);
        MiddleSheet late = Due.of(times(9, "voter 0 0;") + times(6, "voter 0 0 by 9;") + "place 9 9;place 0 0;");
        due("the first 9 don't make it", late.join(0), NONE);
        MiddleSheet bar = Due.of("win over 3/4;" + times(8, "voter 0 0;") + "place 9 9;place 0 0;");
        due("two of eight with over 3 / 4", bar.join(0), 3);
    }

    private static void doubt() {
        promise = 29;
        MiddleSheet m = Due.of("voter 10 10;place 10 10;place 14 10;place 10 10;");
        due("0 by 0", m.doubt(0, 0), 2);
        due("0 by 1", m.doubt(0, 1), 2);
        due("0 by 2, alike at the edge", m.doubt(0, 2), 1);
        due("0 by 5", m.doubt(0, 5), 1);
        due("1 by 0", m.doubt(1, 0), 0);
        due("1 by 1", m.doubt(1, 1), 0);
        due("1 by 2", m.doubt(1, 2), 1);
        due("e 6", m.doubt(0, 6), NONE);
        due("e -1", m.doubt(0, -1), NONE);
        due("no PLACE", m.doubt(3, 0), NONE);
        due("no PLACE", m.doubt(-1, 0), NONE);
        // At the edge of the sheet he can't be further out: at (0, 0) by 2 he may be at (0, 0) .. (2, 2).
        MiddleSheet edge = Due.of("voter 2 0;place 0 0;place 5 0;");
        due("x 2 by 0", edge.doubt(0, 0), 2);
        due("x 2 by 1", edge.doubt(0, 1), 1);
        MiddleSheet corner = Due.of("voter 99 99;place 99 99;place 99 93;");
        due("3 from the corner", corner.doubt(0, 2), 2);
        due("alike at 3", corner.doubt(0, 3), 1);
        // One step over the edge he would be alike to both, or for the other; there is no such POINT.
        String[] edges = {"voter 99 50;place 90 50;place 99 61;", "voter 50 99;place 50 90;place 61 99;",
            "voter 0 50;place 9 50;place 0 61;", "voter 50 0;place 50 9;place 61 0;"};
        for (String over : edges) {
            due("not over the edge: " + over, Due.of(over).doubt(0, 1), 2);
        }
        // Those to whom both are alike wherever they are count on neither side.
        MiddleSheet alike = Due.of("voter 0 0;near line;voter 50 50 by 9;place 0 0;place 0 50;");
        due("who is alike at all", alike.doubt(1, 1), 0);
        due("who is alike at all", alike.doubt(0, 1), 2);
        MiddleSheet least = Due.of("win least 3/5;voter 0 0 by 3;voter 50 0;voter 99 0;place 0 0;place 99 0;");
        due("three of five against it", least.doubt(1, 5), 0);
        due("two of five at most", least.doubt(0, 5), 2);
        MiddleSheet over = Due.of("win over 3/5;voter 0 0 by 3;voter 50 0;voter 99 0;place 0 0;place 99 0;");
        due("three aren't over three fifths", over.doubt(1, 0), 2);
        due("four may be", over.doubt(1, 1), 1);
        m.move(0, 14, 10);
        due("from where he came", m.doubt(1, 1), 2);
    }

    private static void move() {
        promise = 30;
        MiddleSheet m = Due.of("voter 1 1;voter 2 2;");
        due("he is there", m.move(0, 1, 1), NONE);
        due("no VOTER", m.move(2, 0, 0), NONE);
        due("no VOTER", m.move(-1, 0, 0), NONE);
        due("no POINT", m.move(0, 100, 0), NONE);
        due("no POINT", m.move(0, 0, -1), NONE);
        due("nothing moved", m.count(3), 0);
        for (int n = 1; n <= 40; n++) {
            due("move " + n, m.move(n % 2, 50, n), n);
        }
        due("the 41st", m.move(0, 0, 0), NONE);
        due("y of 0", m.voter(0, 1), 40);
        due("y of 1", m.voter(1, 1), 39);
        due("undo", m.undo(), 0);
        due("again", m.move(1, 0, 0), 40);
        due("without VOTERS", new MiddleSheet().move(0, 1, 1), NONE);
    }

    private static void undo() {
        promise = 31;
        MiddleSheet m = Due.of(RING);
        due("without", m.undo(), NONE);
        m.move(2, 3, 0);
        m.move(1, 7, 8);
        m.move(2, 4, 4);
        due("the last", m.undo(), 2);
        due("x of 2", m.voter(2, 0), 3);
        due("y of 2", m.voter(2, 1), 0);
        due("then", m.undo(), 1);
        due("x of 1", m.voter(1, 0), 25);
        due("the first", m.undo(), 2);
        due("y of 2", m.voter(2, 1), 18);
        due("no more", m.undo(), NONE);
        due("as before", m.peace(), NONE);
        due("lines as before", m.line(NONE, 0), 3);
    }

    private static void moved() {
        promise = 32;
        MiddleSheet m = Due.of(RING);
        m.move(0, 30, 0);
        // Two VOTERS are for 1 first now, so it BEATS both others; 2 still BEATS 0.
        int[] want = {0, 10, 0, 30, 0, 3, 3, NONE, 1};
        m.propose(99, 99);
        m.propose(30, 0);
        for (int what = 0; what < 9; what++) {
            due("moved(0, " + what + ")", m.moved(0, what), want[what]);
        }
        int pairs = m.count(5);
        m.move(2, 99, 99);
        due("pairs ahead of the next", m.moved(1, 5), pairs);
        due("pairs behind the next", m.moved(1, 6), m.count(5));
        due("PEACE ahead of the next", m.moved(1, 7), 1);
        due("where he was", m.moved(1, 2), 18);
        due("moved(0, 9)", m.moved(0, 9), NONE);
        due("moved(0, -1)", m.moved(0, -1), NONE);
        due("moved(2, 0)", m.moved(2, 0), NONE);
        due("moved(-1, 0)", m.moved(-1, 0), NONE);
        m.undo();
        due("taken back", m.moved(1, 0), NONE);
    }

    private static void count() {
        promise = 33;
        MiddleSheet m = Due.of("voter 1 1 by 9;voter 2 2 by 8;place 1 1;place 2 2;place 3 3;");
        m.move(0, 5, 5);
        m.undo();
        m.move(0, 1, 2);
        Due.write(m, "xyz");
        int[] want = {2, 3, 17, 1, 3, 3, NONE};
        for (int what = 0; what < want.length; what++) {
            due("count(" + what + ")", m.count(what), want[what]);
        }
        due("count(-1)", m.count(-1), NONE);
        due("count(least)", m.count(Integer.MIN_VALUE), NONE);
    }
}
