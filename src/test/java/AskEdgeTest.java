/**
 * The edges of what is asked of a SHEET (promises 6 to 33, and parts 2 to 5 of the terms): each sentence that names one
 * has a method of its own, with the last input that is still taken and the first that is not.
 */
public final class AskEdgeTest {
    private static final int NONE = MiddleSheet.NONE;
    private static final int VOID = MiddleSheet.VOID;
    private static final int LEAST = Integer.MIN_VALUE;
    private static final int GREATEST = Integer.MAX_VALUE;
    /** Three VOTERS whose votes go round in a ring over three PLACES. */
    private static final String RING = "place 0 0;place 30 0;place 15 26;voter 10 0;voter 25 9;voter 10 18;";
    private static final String TRIANGLE = "voter 0 0;voter 4 0;voter 0 4;";
    private static final Due DUE = new Due();

    private AskEdgeTest() { }

    public static void main(String[] args) {
        askWhoAndWhere();
        askBeating();
        askLines();
        askMiddles();
        askWinSets();
        askRows();
        askParties();
        askPeace();
        askDoubt();
        askMoves();
        askCounts();
        DUE.close();
    }

    // ---- helpers ----

    /** One argument of a call, all others fixed. */
    private interface Asked {
        long by(int argument);
    }

    /** From first to last the call isn't answered with none; at all else it is. */
    private static void answeredFrom(int first, int last, long none, String call, Asked asked) {
        for (int n = first; n <= last; n++) {
            DUE.is(call + " by " + n + " is answered", asked.by(n) != none, true);
        }
        int[] beyond = {first - 1, first - 2, -2, -100, LEAST, LEAST + 1, last + 1, last + 2, last + 100,
            last + 256, last + 65536, GREATEST - 1, GREATEST};
        for (int n : beyond) {
            if (n < first || n > last) {
                DUE.is(call + " by " + n, asked.by(n), none);
            }
        }
    }

    private static void rowIs(String call, int[] want, Asked asked) {
        for (int n = 0; n < want.length; n++) {
            DUE.is(call + " " + n, asked.by(n), want[n]);
        }
    }

    /** 15 VOTERS and 20 PLACES, all at POINTS of their own, as many as there may be. */
    private static MiddleSheet full() {
        StringBuilder text = new StringBuilder();
        for (int v = 0; v < 15; v++) {
            text.append("voter ").append(6 * v + v % 3).append(' ').append(90 - 5 * v + v % 4).append(" by 9;");
        }
        for (int p = 0; p < 20; p++) {
            text.append("place ").append(5 * p).append(' ').append(p * p % 97).append(';');
        }
        return Due.of(text.toString());
    }

    // ---- promises 6 to 9: VOTERS, PLACES, POINTS and WAYS ----

    private static void askWhoAndWhere() {
        votersHaveNumbers();
        voterTellsSixThings();
        placesHaveNumbers();
        placeTellsTwoThings();
        pointsAreNoughtToNinetyNine();
        proposeNeedsVoters();
        proposeTakesTwentyInAll();
        proposeTellsTheNumber();
        wayIsLongestAndShortest();
        wayIsWithoutSign();
    }

    /** voter, way, move: none such below 0, and from how many there are on. */
    private static void votersHaveNumbers() {
        for (int n : new int[] {1, 2, 14, 15}) {
            MiddleSheet m = Due.of("voter 1 1;".repeat(n));
            answeredFrom(0, n - 1, NONE, "voter(v, 0) of " + n, v -> m.voter(v, 0));
            answeredFrom(0, n - 1, NONE, "way(v, 5, 5) of " + n, v -> m.way(v, 5, 5));
            answeredFrom(0, n - 1, NONE, "move(v, 5, 5) of " + n, v -> Due.of("voter 1 1;".repeat(n)).move(v, 5, 5));
        }
        // What was told ahead of the last SHEET is there no more.
        MiddleSheet fewer = Due.of("voter 1 1;voter 2 2;voter 3 3;");
        Due.write(fewer, "voter 1 1;");
        fewer.sheet();
        answeredFrom(0, 0, NONE, "voter(v, 0) of fewer", v -> fewer.voter(v, 0));
        answeredFrom(0, 0, NONE, "way of fewer", v -> fewer.way(v, 5, 5));
        answeredFrom(0, 0, NONE, "move of fewer", v -> Due.of("voter 1 1;").move(v, 5, 5));
    }

    /** 0 x, 1 y, 2 WEIGHT, 3 his measure, 4 and 5 his stretch; NONE for others. */
    private static void voterTellsSixThings() {
        MiddleSheet m = Due.of("near line;stretch 4 5;voter 6 7 by 8;");
        rowIs("voter", new int[] {6, 7, 8, 3, 4, 5}, what -> m.voter(0, what));
        answeredFrom(0, 5, NONE, "voter(0, what)", what -> m.voter(0, what));
    }

    /** Of a PLACE below 0, and from how many there are on, there is none such. */
    private static void placesHaveNumbers() {
        for (int n : new int[] {1, 2, 8, 9, 19, 20}) {
            MiddleSheet m = Due.of("voter 1 1;" + "place 1 1;".repeat(n));
            int last = n - 1;
            answeredFrom(0, last, NONE, "place(p, 0)", p -> m.place(p, 0));
            answeredFrom(0, last, NONE, "votes(p, 0)", p -> m.votes(p, 0));
            answeredFrom(0, last, NONE, "votes(0, p)", p -> m.votes(0, p));
            answeredFrom(0, last, NONE, "led(p, p, 0)", p -> m.led(p, p, 0));
            answeredFrom(0, last, NONE, "join(p)", p -> m.join(p));
            answeredFrom(0, last, NONE, "doubt(p, 0)", p -> m.doubt(p, 0));
        }
        for (int n : new int[] {2, 3, 20}) {
            MiddleSheet m = Due.of("voter 1 1;" + "place 9 9;".repeat(n - 1) + "place 1 1;");
            int last = n - 1;
            // NONE is the least NEED, so it is answered too.
            answeredFrom(NONE, last, NONE, "need(p)", p -> m.need(p));
            answeredFrom(0, last - 1, 0, "beats(last, p)", p -> m.beats(last, p) ? 1 : 0);
            answeredFrom(last, last, 0, "beats(p, 0)", p -> m.beats(p, 0) ? 1 : 0);
            answeredFrom(0, last, NONE, "led(p, last, NONE)", p -> m.led(p, last, NONE));
            answeredFrom(last, last, NONE, "between(0, p)", p -> m.between(0, p));
            answeredFrom(0, last - 1, NONE, "between(p, last)", p -> m.between(p, last));
        }
        MiddleSheet fewer = Due.of("voter 1 1;place 1 1;place 2 2;");
        Due.write(fewer, "voter 1 1;place 3 3;");
        fewer.sheet();
        answeredFrom(0, 0, NONE, "place of fewer", p -> fewer.place(p, 0));
    }

    /** A PLACE: x (0) or y (1); NONE for others. */
    private static void placeTellsTwoThings() {
        MiddleSheet m = Due.of("voter 1 1;place 0 99;");
        rowIs("place", new int[] {0, 99, NONE, NONE, NONE, NONE}, what -> m.place(0, what));
        answeredFrom(0, 1, NONE, "place(0, what)", what -> m.place(0, what));
    }

    /** A POINT is whole, 0 .. 99 each way. */
    private static void pointsAreNoughtToNinetyNine() {
        String text = "voter 50 50;";
        answeredFrom(0, 99, NONE, "way x", x -> Due.of(text).way(0, x, 7));
        answeredFrom(0, 99, NONE, "way y", y -> Due.of(text).way(0, 7, y));
        answeredFrom(0, 99, NONE, "propose x", x -> Due.of(text).propose(x, 7));
        answeredFrom(0, 99, NONE, "propose y", y -> Due.of(text).propose(7, y));
        answeredFrom(0, 99, NONE, "winSet x", x -> Due.of(text).winSet(x, 7, 0));
        answeredFrom(0, 99, NONE, "winSet y", y -> Due.of(text).winSet(7, y, 1));
        answeredFrom(0, 99, NONE, "piece x", x -> Due.of(text).piece(x, 7, 0, 0));
        answeredFrom(0, 99, NONE, "piece y", y -> Due.of(text).piece(7, y, 0, 2));
        answeredFrom(0, 99, NONE, "most x", x -> Due.of(text).most(x, 7));
        answeredFrom(0, 99, NONE, "most y", y -> Due.of(text).most(7, y));
        answeredFrom(0, 99, NONE, "move x", x -> Due.of(text).move(0, x, 7));
        answeredFrom(0, 99, NONE, "move y", y -> Due.of(text).move(0, 7, y));
        // As x * 100 + y: all others are nearer to the VOTER than (0, 0), and farther from him than (99, 99).
        String corner = "voter 99 99;";
        answeredFrom(1, 9999, 0, "wins(n, 0)", n -> Due.of(corner).wins(n, 0) ? 1 : 0);
        answeredFrom(0, 9998, 0, "wins(9999, n)", n -> Due.of(corner).wins(9999, n) ? 1 : 0);
        DUE.is("-100 isn't (0, 0)", Due.of(corner).wins(9999, -100), false);
        DUE.is("100 is (1, 0), not (0, 100)", Due.of("voter 1 0;").wins(100, 99), true);
    }

    /** NONE if there are no VOTERS. */
    private static void proposeNeedsVoters() {
        MiddleSheet m = new MiddleSheet();
        DUE.is("propose of nothing", m.propose(0, 0), NONE);
        DUE.is("no PLACES", m.count(1), 0);
        Due.write(m, "place 1 1;");
        m.sheet();
        DUE.is("propose without VOTER still", m.propose(0, 0), NONE);
        Due.write(m, "voter 1 1;");
        m.sheet();
        DUE.is("propose with one", m.propose(0, 0), 0);
    }

    /** NONE if 20 came, of the SHEET or since. */
    private static void proposeTakesTwentyInAll() {
        for (int told = 0; told <= 20; told++) {
            MiddleSheet m = Due.of("voter 1 1;" + "place 1 1;".repeat(told));
            for (int n = told; n < 20; n++) {
                DUE.is("propose behind " + n, m.propose(n, n), n);
            }
            DUE.is("the 21st", m.propose(2, 2), NONE);
            DUE.is("and again", m.propose(2, 2), NONE);
            DUE.is("20 there are", m.count(1), 20);
        }
    }

    /** A PLACE more: its number; also at the POINT of another one. */
    private static void proposeTellsTheNumber() {
        MiddleSheet m = Due.of("place 3 4;voter 1 1;");
        DUE.is("the same POINT", m.propose(3, 4), 1);
        DUE.is("the VOTER's POINT", m.propose(1, 1), 2);
        DUE.is("(99, 0)", m.propose(99, 0), 3);
        DUE.is("x", m.place(3, 0), 99);
        DUE.is("y", m.place(3, 1), 0);
        DUE.is("beats at once", m.beats(2, 0), true);
    }

    /** With stretch 1 .. 9, from one corner to the other, and 0 where he is. */
    private static void wayIsLongestAndShortest() {
        MiddleSheet m = Due.of("stretch 9 9;voter 0 99;near street;voter 0 99;near side;voter 0 99;near line;voter 0 99;");
        rowIs("longest", new int[] {2 * 891 * 891, 2 * 891, 891, 891}, v -> m.way(v, 99, 0));
        rowIs("shortest", new int[] {0, 0, 0, 0}, v -> m.way(v, 0, 99));
        rowIs("line alone sees dx alone", new int[] {891 * 891, 891, 891, 0}, v -> m.way(v, 0, 0));
        MiddleSheet apart = Due.of("stretch 2 9;near side;voter 50 50;near street;voter 50 50;near crow;voter 50 50;");
        rowIs("the greater is y", new int[] {18, 4 + 18, 16 + 324}, v -> apart.way(v, 52, 48));
        rowIs("the greater is x", new int[] {20, 20 + 18, 400 + 324}, v -> apart.way(v, 40, 52));
        rowIs("both as great", new int[] {18, 36, 648}, v -> apart.way(v, 59, 52));
    }

    /** With dx and dy (without sign). */
    private static void wayIsWithoutSign() {
        MiddleSheet m = Due.of("stretch 3 2;voter 50 50;near street;voter 50 50;near side;voter 50 50;near line;voter 50 50;");
        int[] want = {9 * 49 + 4 * 25, 21 + 10, 21, 21};
        int[][] around = {{43, 45}, {43, 55}, {57, 45}, {57, 55}};
        for (int[] at : around) {
            rowIs("to " + at[0] + " " + at[1], want, v -> m.way(v, at[0], at[1]));
        }
    }

    // ---- promises 10 to 12: what BEATS what ----

    private static void askBeating() {
        alikeIsForNone();
        moreIsAboveAgainst();
        overIsAboveTheShare();
        leastIsNotBelowTheShare();
        leastIsAboveAgainstToo();
        allWeightsCountAtTheBar();
        noneBeatsItself();
        onePointTwice();
        winsAsPlacesDo();
        greatestWeights();
    }

    /** RATHER for the POINT to which his WAY is less; for none, if both are alike. */
    private static void alikeIsForNone() {
        MiddleSheet m = Due.of("voter 50 50;place 47 50;place 53 50;place 54 50;place 50 47;");
        DUE.is("alike", m.votes(0, 1), 0);
        DUE.is("alike the other way", m.votes(1, 0), 0);
        DUE.is("less by one", m.votes(1, 2), 1);
        DUE.is("more by one", m.votes(2, 1), 0);
        DUE.is("alike across", m.votes(0, 3), 0);
        MiddleSheet line = Due.of("near line;voter 50 50;place 47 0;place 47 99;place 50 3;");
        DUE.is("line: alike", line.votes(0, 1), 0);
        DUE.is("line: dx 0", line.votes(2, 0), 1);
    }

    /** FOR and AGAINST as given, and nobody else but so many who are for none. */
    private static MiddleSheet vote(String bar, int pro, int contra, int alike) {
        StringBuilder text = new StringBuilder(bar);
        voters(text, "0 0", pro);
        voters(text, "20 0", contra);
        voters(text, "10 0", alike);
        return Due.of(text.append("place 0 0;place 20 0;").toString());
    }

    private static void voters(StringBuilder text, String at, int weights) {
        for (int left = weights; left > 0; left -= 9) {
            text.append("voter ").append(at).append(" by ").append(Math.min(9, left)).append(';');
        }
    }

    /** With more: if FOR is above AGAINST. */
    private static void moreIsAboveAgainst() {
        for (String bar : new String[] {"", "win more;"}) {
            DUE.is(bar + "5 to 4", vote(bar, 5, 4, 0).beats(0, 1), true);
            DUE.is(bar + "4 to 4", vote(bar, 4, 4, 0).beats(0, 1), false);
            DUE.is(bar + "4 to 5", vote(bar, 4, 5, 0).beats(0, 1), false);
            DUE.is(bar + "1 to 0 and 20 for none", vote(bar, 1, 0, 20).beats(0, 1), true);
            DUE.is(bar + "0 to 0", vote(bar, 0, 0, 20).beats(0, 1), false);
        }
    }

    /** With over: if FOR times B is above A times all WEIGHTS. */
    private static void overIsAboveTheShare() {
        DUE.is("over 1/2: 5 of 10", vote("win over 1/2;", 5, 4, 1).beats(0, 1), false);
        DUE.is("over 1/2: 6 of 10", vote("win over 1/2;", 6, 4, 0).beats(0, 1), true);
        DUE.is("over 1/2: 6 of 11", vote("win over 1/2;", 6, 5, 0).beats(0, 1), true);
        DUE.is("over 2/3: 8 of 12", vote("win over 2/3;", 8, 4, 0).beats(0, 1), false);
        DUE.is("over 2/3: 9 of 12", vote("win over 2/3;", 9, 3, 0).beats(0, 1), true);
        DUE.is("over 2/3: 8 of 11", vote("win over 2/3;", 8, 3, 0).beats(0, 1), true);
        DUE.is("over 1/1: all", vote("win over 1/1;", 9, 0, 0).beats(0, 1), false);
        DUE.is("over 98/99: all of 98", vote("win over 98/99;", 98, 0, 0).beats(0, 1), true);
        DUE.is("over 98/99: 98 of 99", vote("win over 98/99;", 98, 1, 0).beats(0, 1), false);
        DUE.is("over 98/99: 99 of 99", vote("win over 98/99;", 99, 0, 0).beats(0, 1), true);
    }

    /** With least: if FOR times B isn't below that. */
    private static void leastIsNotBelowTheShare() {
        DUE.is("least 2/3: 8 of 12", vote("win least 2/3;", 8, 4, 0).beats(0, 1), true);
        DUE.is("least 2/3: 7 of 12", vote("win least 2/3;", 7, 5, 0).beats(0, 1), false);
        DUE.is("least 2/3: 8 of 13", vote("win least 2/3;", 8, 5, 0).beats(0, 1), false);
        DUE.is("least 1/1: all", vote("win least 1/1;", 9, 0, 0).beats(0, 1), true);
        DUE.is("least 1/1: all but one", vote("win least 1/1;", 9, 0, 1).beats(0, 1), false);
        DUE.is("least 98/99: 98 of 99", vote("win least 98/99;", 98, 1, 0).beats(0, 1), true);
        DUE.is("least 98/99: 97 of 99", vote("win least 98/99;", 97, 0, 2).beats(0, 1), false);
    }

    /** And FOR is above AGAINST. */
    private static void leastIsAboveAgainstToo() {
        DUE.is("least 1/2: 5 to 5", vote("win least 1/2;", 5, 5, 0).beats(0, 1), false);
        DUE.is("least 1/2: 5 to 5 back", vote("win least 1/2;", 5, 5, 0).beats(1, 0), false);
        DUE.is("least 1/2: 5 to 4, one for none", vote("win least 1/2;", 5, 4, 1).beats(0, 1), true);
        DUE.is("least 1/2: 6 to 5", vote("win least 1/2;", 6, 5, 0).beats(0, 1), true);
        DUE.is("least 1/2: 5 to 6", vote("win least 1/2;", 5, 6, 0).beats(0, 1), false);
    }

    /** All WEIGHTS: also of those who are for none. */
    private static void allWeightsCountAtTheBar() {
        DUE.is("over 1/2: 4 to 0 of 8", vote("win over 1/2;", 4, 0, 4).beats(0, 1), false);
        DUE.is("over 1/2: 5 to 0 of 8", vote("win over 1/2;", 5, 0, 3).beats(0, 1), true);
        DUE.is("least 1/2: 4 to 0 of 8", vote("win least 1/2;", 4, 0, 4).beats(0, 1), true);
        DUE.is("least 1/2: 4 to 0 of 9", vote("win least 1/2;", 4, 0, 5).beats(0, 1), false);
    }

    private static void noneBeatsItself() {
        for (String bar : new String[] {"win more;", "win over 1/2;", "win least 1/2;", "win least 1/1;"}) {
            MiddleSheet m = vote(bar, 9, 0, 0);
            DUE.is(bar + "beats itself", m.beats(0, 0), false);
            DUE.is(bar + "wins against itself", m.wins(0, 0), false);
            DUE.is(bar + "votes for itself", m.votes(0, 0), 0);
        }
    }

    /** Two PLACES at one POINT are two, and neither BEATS the other. */
    private static void onePointTwice() {
        MiddleSheet m = Due.of("voter 1 1;place 5 5;place 5 5;");
        DUE.is("0 against 1", m.beats(0, 1), false);
        DUE.is("1 against 0", m.beats(1, 0), false);
        DUE.is("votes", m.votes(0, 1), 0);
        DUE.is("PEACE", m.peace(), 0);
        DUE.is("can't be led", m.led(0, 1, NONE), NONE);
        DUE.is("both are OPEN", m.best(1), 3);
        DUE.is("none is TOP", m.best(0), 0);
    }

    /** wins, by each bar, as beats does for PLACES there. */
    private static void winsAsPlacesDo() {
        for (String bar : new String[] {"win more;", "win over 3/5;", "win least 3/5;"}) {
            for (int pro = 0; pro <= 5; pro++) {
                for (int contra = 0; pro + contra <= 5; contra++) {
                    MiddleSheet m = vote(bar, pro, contra, 6 - pro - contra);
                    DUE.is(bar + pro + " to " + contra, m.wins(0, 2000), m.beats(0, 1));
                }
            }
        }
    }

    /** 15 VOTERS by 9. */
    private static void greatestWeights() {
        MiddleSheet m = vote("win least 99/99;", 135, 0, 0);
        DUE.is("all WEIGHTS", m.count(2), 135);
        DUE.is("FOR", m.votes(0, 1), 135);
        DUE.is("beats", m.beats(0, 1), true);
        DUE.is("NEED", m.need(1), 135);
        DUE.is("MOST", m.most(99, 99), 135);
        DUE.is("over all", vote("win over 99/99;", 135, 0, 0).beats(0, 1), false);
    }

    // ---- promise 13: HALVING LINES ----

    private static void askLines() {
        lineHasNumbers();
        lineTellsThreeThings();
        halvesAreNotMoreThanHalf();
        whatIsOnThemDoesNotCount();
        unlikePoints();
        linesAreWithoutCommonPart();
        linesTurn();
        linesOfOneDirectionByC();
        linesAreToldOnce();
        mostLines();
    }

    /** VOID if there is none such; how many by NONE. */
    private static void lineHasNumbers() {
        MiddleSheet m = Due.of(TRIANGLE);
        DUE.is("how many", m.line(NONE, 0), 3);
        answeredFrom(NONE, 2, VOID, "line(k, 0)", k -> m.line(k, 0));
        DUE.is("without VOTERS", new MiddleSheet().line(NONE, 0), 0);
        DUE.is("the first without VOTERS", new MiddleSheet().line(0, 0), VOID);
        MiddleSheet one = Due.of("voter 1 1;");
        DUE.is("of one VOTER", one.line(NONE, 0), 0);
        answeredFrom(NONE, NONE, VOID, "line(k, 0) of one", k -> one.line(k, 0));
        // What there was ahead of a MOVE is there no more.
        m.move(1, 0, 0);
        DUE.is("fewer behind a MOVE", m.line(NONE, 0), 1);
        answeredFrom(NONE, 0, VOID, "line(k, 0) behind a MOVE", k -> m.line(k, 0));
    }

    /** a (0), b (1), c (2); VOID for others; -1 is no VOID. */
    private static void lineTellsThreeThings() {
        MiddleSheet m = Due.of("voter 0 1;voter 98 99;");
        rowIs("line", new int[] {1, -1, -1, VOID, VOID}, what -> m.line(0, what));
        answeredFrom(0, 2, VOID, "line(0, what)", what -> m.line(0, what));
    }

    /** On neither side more than half of all WEIGHTS: half is taken, one more is not. */
    private static void halvesAreNotMoreThanHalf() {
        String edge = "voter 5 0;voter 5 9;";
        DUE.is("2 of 4 on one side", Due.of(edge + "voter 9 4 by 2;").line(NONE, 0), 3);
        DUE.is("3 of 5 on one side", has(Due.of(edge + "voter 9 4 by 3;"), 1, 0, 5), false);
        DUE.is("2 of 5 and 1 of 5", has(Due.of(edge + "voter 9 4 by 2;voter 1 4;"), 1, 0, 5), true);
        DUE.is("2 of 4 on the left", has(Due.of(edge + "voter 1 4 by 2;"), 1, 0, 5), true);
        DUE.is("3 of 5 on the left", has(Due.of(edge + "voter 1 4 by 3;"), 1, 0, 5), false);
        DUE.is("3 of 6 and 1 of 6", has(Due.of(edge + "voter 9 4 by 3;voter 1 4;"), 1, 0, 5), true);
        DUE.is("4 of 7 and 1 of 7", has(Due.of(edge + "voter 9 4 by 4;voter 1 4;"), 1, 0, 5), false);
    }

    private static boolean has(MiddleSheet m, int a, int b, int c) {
        for (int k = 0; k < m.line(NONE, 0); k++) {
            if (m.line(k, 0) == a && m.line(k, 1) == b && m.line(k, 2) == c) {
                return true;
            }
        }
        return false;
    }

    /** What is on them not counted, be it ever so much. */
    private static void whatIsOnThemDoesNotCount() {
        MiddleSheet m = Due.of("voter 5 0 by 9;voter 5 9 by 9;voter 5 5 by 9;voter 9 4;voter 1 4;");
        DUE.is("x = 5", has(m, 1, 0, 5), true);
        DUE.is("a row", Due.of("voter 1 1;voter 2 2 by 9;voter 3 3 by 8;").line(NONE, 0), 1);
    }

    /** Through two VOTERS at unlike POINTS. */
    private static void unlikePoints() {
        DUE.is("one POINT", Due.of("voter 5 5;".repeat(15)).line(NONE, 0), 0);
        DUE.is("unlike by x", Due.of("voter 5 5;voter 6 5;").line(NONE, 0), 1);
        DUE.is("unlike by y", Due.of("voter 5 5;voter 5 6;").line(NONE, 0), 1);
        rowIs("by x", new int[] {0, 1, 5}, what -> Due.of("voter 5 5;voter 6 5;").line(0, what));
        rowIs("by y", new int[] {1, 0, 5}, what -> Due.of("voter 5 5;voter 5 6;").line(0, what));
    }

    /** a and b without a common part, a above 0, or a 0 and b 1. */
    private static void linesAreWithoutCommonPart() {
        rowIs("99 by 99", new int[] {1, -1, 0}, what -> Due.of("voter 99 99;voter 0 0;").line(0, what));
        rowIs("down", new int[] {1, 1, 99}, what -> Due.of("voter 0 99;voter 99 0;").line(0, what));
        rowIs("down, turned", new int[] {1, 1, 99}, what -> Due.of("voter 99 0;voter 0 99;").line(0, what));
        rowIs("flat", new int[] {0, 1, 7}, what -> Due.of("voter 99 7;voter 0 7;").line(0, what));
        rowIs("flat, turned", new int[] {0, 1, 7}, what -> Due.of("voter 0 7;voter 99 7;").line(0, what));
        rowIs("flat at 0", new int[] {0, 1, 0}, what -> Due.of("voter 0 0;voter 99 0;").line(0, what));
        rowIs("upright", new int[] {1, 0, 7}, what -> Due.of("voter 7 99;voter 7 1;").line(0, what));
        rowIs("no common part", new int[] {99, -98, 0}, what -> Due.of("voter 98 99;voter 0 0;").line(0, what));
        rowIs("part of 3", new int[] {2, 3, 21}, what -> Due.of("voter 3 5;voter 9 1;").line(0, what));
        rowIs("c greatest", new int[] {99, 98, 9801}, what -> Due.of("voter 1 99;voter 99 0;").line(0, what));
        rowIs("c least", new int[] {1, -99, -9702}, what -> Due.of("voter 0 98;voter 99 99;").line(0, what));
    }

    /** By b by a (exactly, the least first; those with a 0 last). */
    private static void linesTurn() {
        // All lines go through the heavy VOTER, so that each is halving.
        MiddleSheet m = Due.of("voter 0 0 by 9;voter 98 97;voter 99 98;voter 97 96;voter 0 9;voter 9 0;voter 1 99;voter 99 1;");
        int[][] want = {{1, -99, 0}, {96, -97, 0}, {97, -98, 0}, {98, -99, 0}, {99, -1, 0}, {1, 0, 0}, {0, 1, 0}};
        DUE.is("how many", m.line(NONE, 0), want.length);
        for (int k = 0; k < want.length; k++) {
            int at = k;
            rowIs("line " + k, want[k], what -> m.line(at, what));
        }
        MiddleSheet down = Due.of("voter 0 99 by 9;voter 99 0;voter 99 1;voter 98 0;voter 99 99;voter 0 0;");
        int[][] falling = {{1, 0, 0}, {98, 99, 9801}, {1, 1, 99}, {99, 98, 9702}, {0, 1, 99}};
        int[] order = {0, 3, 2, 1, 4};
        DUE.is("how many fall", down.line(NONE, 0), falling.length);
        for (int k = 0; k < falling.length; k++) {
            int at = k;
            rowIs("falling " + k, falling[order[k]], what -> down.line(at, what));
        }
    }

    /** Of one direction by c. */
    private static void linesOfOneDirectionByC() {
        MiddleSheet m = Due.of("voter 7 2;voter 2 7;voter 2 2;voter 7 7;");
        int[][] want = {{1, -1, 0}, {1, 0, 2}, {1, 0, 7}, {1, 1, 9}, {0, 1, 2}, {0, 1, 7}};
        DUE.is("how many", m.line(NONE, 0), want.length);
        for (int k = 0; k < want.length; k++) {
            int at = k;
            rowIs("line " + k, want[k], what -> m.line(at, what));
        }
        // c below 0 is less than c above 0: both directions of a stripe.
        MiddleSheet stripe = Due.of("voter 0 9;voter 1 10;voter 9 0;voter 10 1;");
        DUE.is("two along", stripe.line(0, 2), -9);
        DUE.is("then", stripe.line(1, 2), 9);
    }

    /** Each is told once, though many VOTERS are on it. */
    private static void linesAreToldOnce() {
        MiddleSheet m = Due.of("voter 0 0;voter 1 2;voter 2 4;voter 3 6;voter 3 6;voter 0 0;voter 50 99;");
        DUE.is("one line", has(m, 2, -1, 0), true);
        int found = 0;
        for (int k = 0; k < m.line(NONE, 0); k++) {
            found += m.line(k, 0) == 2 && m.line(k, 1) == -1 ? 1 : 0;
        }
        DUE.is("told once", found, 1);
        DUE.is("fifteen in a row", Due.of("voter 3 3;voter 4 4;voter 5 5;".repeat(5)).line(NONE, 0), 1);
    }

    /** 15 VOTERS and one heavier than all others: just the lines through that one, in 13 directions. */
    private static void mostLines() {
        StringBuilder text = new StringBuilder("voter 50 50 by 9;".repeat(2));
        for (int n = 1; n <= 13; n++) {
            text.append("voter ").append(50 + n).append(" 51;");
        }
        MiddleSheet m = Due.of(text.toString());
        DUE.is("how many", m.line(NONE, 0), 13);
        for (int n = 1; n <= 13; n++) {
            int at = 13 - n;
            rowIs("line " + at, new int[] {1, -n, 50 - 50 * n}, what -> m.line(at, what));
        }
        // As many as were ever found for 15 VOTERS.
        MiddleSheet many = Due.of("voter 7 59 by 2;voter 38 50;voter 95 72;voter 38 53;voter 76 80;voter 25 69;voter 62 96;"
                + "voter 80 69;voter 13 59;voter 95 0;voter 73 19;voter 41 41;voter 45 0;voter 10 14;voter 18 21;");
        DUE.is("forty", many.line(NONE, 0), 40);
        for (int k = 0; k + 1 < 40; k++) {
            long left = (long) many.line(k, 1) * many.line(k + 1, 0);
            long right = (long) many.line(k + 1, 1) * many.line(k, 0);
            DUE.is("in order " + k, left < right || (left == right && many.line(k, 2) < many.line(k + 1, 2)), true);
        }
        MiddleSheet full = full();
        int lines = full.line(NONE, 0);
        DUE.is("the last", full.line(lines - 1, 0) != VOID, true);
        DUE.is("behind the last", full.line(lines, 0), VOID);
    }

    // ---- promises 14 to 16: MIDDLES, PROOF, THE ROUND POINT ----

    private static void askMiddles() {
        middleHasNumbers();
        middleTellsThreeThings();
        middleHasNotMoreThanHalfAside();
        middlesOfRows();
        middlesOfTheNearest();
        middlesByXThenY();
        middlesBehindMoves();
        middlesAreToldOnce();
        middleByNAboveNought();
        proofIsOfThree();
        proofIsWithoutMiddleAlone();
        proofIsTheFirstThree();
        proofOfThoseThatNeverMeet();
        roundTellsFourThings();
        roundWithoutLines();
        roundOfLikeOnes();
        roundStaysOnTheSheet();
        roundWithoutCommonPart();
    }

    private static void middleHasNumbers() {
        MiddleSheet m = Due.of("voter 1 1;voter 2 2;voter 3 3;voter 4 4;");
        DUE.is("how many", m.middle(NONE, 0), 2);
        answeredFrom(NONE, 1, VOID, "middle(k, 0)", k -> m.middle(k, 0));
        DUE.is("without VOTERS", new MiddleSheet().middle(NONE, 0), 0);
        DUE.is("the first without VOTERS", new MiddleSheet().middle(0, 0), VOID);
        MiddleSheet none = Due.of(TRIANGLE);
        DUE.is("none", none.middle(NONE, 0), 0);
        answeredFrom(NONE, NONE, VOID, "middle(k, 2) of none", k -> none.middle(k, 2));
    }

    /** x (0), y (1), n (2); VOID likewise. */
    private static void middleTellsThreeThings() {
        MiddleSheet m = Due.of("voter 0 0;voter 1 1;voter 0 1;voter 1 0;");
        rowIs("middle", new int[] {1, 1, 2, VOID, VOID}, what -> m.middle(0, what));
        answeredFrom(0, 2, VOID, "middle(0, what)", what -> m.middle(0, what));
    }

    /** No line has on one side (not counting what is on it) more than half of all WEIGHTS. */
    private static void middleHasNotMoreThanHalfAside() {
        DUE.is("3 of 6 at one POINT", Due.of("voter 5 5 by 3;voter 0 0;voter 9 1;voter 1 9;").middle(NONE, 0), 1);
        DUE.is("2 of 5 at one POINT", Due.of("voter 9 9 by 2;voter 0 0;voter 9 1;voter 1 9;").middle(NONE, 0), 0);
        // On a row the half is at two POINTS or at one.
        DUE.is("2 and 2", Due.of("voter 1 1 by 2;voter 9 9 by 2;").middle(NONE, 0), 2);
        DUE.is("3 and 2", Due.of("voter 1 1 by 3;voter 9 9 by 2;").middle(NONE, 0), 1);
        DUE.is("1, 1 and 2", Due.of("voter 1 1;voter 5 5;voter 9 9 by 2;").middle(NONE, 0), 2);
        DUE.is("1, 2 and 2", Due.of("voter 1 1;voter 5 5 by 2;voter 9 9 by 2;").middle(NONE, 0), 1);
        rowIs("1, 2 and 2", new int[] {5, 5, 1}, what -> Due.of("voter 1 1;voter 5 5 by 2;voter 9 9 by 2;").middle(0, what));
        DUE.is("one VOTER alone", Due.of("voter 99 0 by 9;").middle(NONE, 0), 1);
    }

    /** A line along the row has nobody aside; one across it has all on one side of the place. */
    private static void middlesOfRows() {
        String[] rows = {"voter 1 5;voter 5 5;voter 9 5;", "voter 5 1;voter 5 5;voter 5 9;", "voter 1 1;voter 5 5;voter 9 9;",
            "voter 9 1;voter 5 5;voter 1 9;"};
        for (String row : rows) {
            DUE.is("middles of " + row, Due.of(row).middle(NONE, 0), 1);
            rowIs("middle of " + row, new int[] {5, 5, 1}, what -> Due.of(row).middle(0, what));
        }
    }

    /** Steps of 1 alone: as near to each other as can be. */
    private static void middlesOfTheNearest() {
        int[][] steps = {{1, 0}, {0, 1}, {1, 1}, {1, -1}};
        for (int[] step : steps) {
            int x = 50 + step[0];
            int y = 50 + step[1];
            String near = "voter 50 50;voter " + x + " " + y + " by 2;";
            DUE.is("middles of " + near, Due.of(near).middle(NONE, 0), 1);
            rowIs("middle of " + near, new int[] {x, y, 1}, what -> Due.of(near).middle(0, what));
            String heavy = "voter 50 50 by 2;voter " + x + " " + y + ";";
            DUE.is("middles of " + heavy, Due.of(heavy).middle(NONE, 0), 1);
            rowIs("middle of " + heavy, new int[] {50, 50, 1}, what -> Due.of(heavy).middle(0, what));
            String alike = "voter 50 50;voter " + x + " " + y + ";";
            DUE.is("middles of " + alike, Due.of(alike).middle(NONE, 0), 2);
        }
        String[] triangles = {"voter 1 0;voter 0 1;voter 0 0;", "voter 0 0;voter 1 1;voter 0 1;",
            "voter 1 1;voter 1 0;voter 0 0;", "voter 1 1;voter 0 1;voter 1 0;"};
        for (String triangle : triangles) {
            DUE.is("middles of " + triangle, Due.of(triangle).middle(NONE, 0), 0);
        }
    }

    /** What was a MIDDLE ahead of a MOVE leaves nothing behind. */
    private static void middlesBehindMoves() {
        MiddleSheet m = Due.of("voter 1 1;voter 2 2;voter 3 3;voter 4 4;");
        rowIs("first", new int[] {2, 2, 1}, what -> m.middle(0, what));
        rowIs("second", new int[] {3, 3, 1}, what -> m.middle(1, what));
        for (int v = 0; v < 4; v++) {
            m.move(v, 50 + 10 * v, 50);
        }
        DUE.is("how many", m.middle(NONE, 0), 2);
        rowIs("first then", new int[] {60, 50, 1}, what -> m.middle(0, what));
        rowIs("second then", new int[] {70, 50, 1}, what -> m.middle(1, what));
        m.move(0, 70, 50);
        DUE.is("one", m.middle(NONE, 0), 1);
        rowIs("that one", new int[] {70, 50, 1}, what -> m.middle(0, what));
        DUE.is("no other", m.middle(1, 0), VOID);
    }

    /** By x, then by y. */
    private static void middlesByXThenY() {
        MiddleSheet inOrder = Due.of("voter 5 2;voter 5 9;");
        rowIs("told in order, first", new int[] {5, 2, 1}, what -> inOrder.middle(0, what));
        rowIs("told in order, then", new int[] {5, 9, 1}, what -> inOrder.middle(1, what));
        MiddleSheet upright = Due.of("voter 5 9;voter 5 2;");
        rowIs("by y, first", new int[] {5, 2, 1}, what -> upright.middle(0, what));
        rowIs("by y, then", new int[] {5, 9, 1}, what -> upright.middle(1, what));
        MiddleSheet falling = Due.of("voter 9 2;voter 5 3;");
        rowIs("by x, first", new int[] {5, 3, 1}, what -> falling.middle(0, what));
        rowIs("by x, then", new int[] {9, 2, 1}, what -> falling.middle(1, what));
    }

    /** Each told once: at many VOTERS' POINTS and crossings alike. */
    private static void middlesAreToldOnce() {
        DUE.is("fifteen at one POINT", Due.of("voter 3 4;".repeat(15)).middle(NONE, 0), 1);
        DUE.is("a star", Due.of("voter 5 5;voter 0 0;voter 10 10;voter 0 10;voter 10 0;").middle(NONE, 0), 1);
        rowIs("a star", new int[] {5, 5, 1}, what ->
                Due.of("voter 5 5;voter 0 0;voter 10 10;voter 0 10;voter 10 0;").middle(0, what));
        DUE.is("a star without its VOTER", Due.of("voter 0 0;voter 10 10;voter 0 10;voter 10 0;voter 5 0;voter 5 10;")
                .middle(NONE, 0), 1);
    }

    /** Three numbers without a common part, n above 0. */
    private static void middleByNAboveNought() {
        // (0, 0) to (a, b) and (0, b) to (a, 0) cross in the half of both.
        rowIs("half", new int[] {99, 97, 2}, what -> Due.of("voter 0 0;voter 99 97;voter 0 97;voter 99 0;").middle(0, what));
        rowIs("whole", new int[] {49, 48, 1}, what -> Due.of("voter 0 0;voter 98 96;voter 0 96;voter 98 0;").middle(0, what));
        rowIs("half of one", new int[] {98, 97, 2}, what -> Due.of("voter 0 0;voter 98 97;voter 0 97;voter 98 0;").middle(0, what));
        rowIs("x = 4 and y = 4", new int[] {4, 4, 1},
                what -> Due.of("voter 4 0;voter 4 9;voter 0 4;voter 9 4;").middle(0, what));
        // x = 3 y and x + y = 3 in all orders of the VOTERS.
        String[] orders = {"voter 0 0;voter 3 1;voter 0 3;voter 3 0;", "voter 3 0;voter 0 3;voter 3 1;voter 0 0;"};
        for (String order : orders) {
            rowIs("9 and 3 by 4", new int[] {9, 3, 4}, what -> Due.of(order).middle(0, what));
            DUE.is("that one", Due.of(order).middle(NONE, 0), 1);
        }
        // At (0, y) a nought has every part in common.
        rowIs("x 0", new int[] {0, 5, 1}, what -> Due.of("voter 0 5 by 3;voter 0 9;voter 9 5;").middle(0, what));
        rowIs("both 0", new int[] {0, 0, 1}, what -> Due.of("voter 0 0 by 3;voter 0 9;voter 9 5;").middle(0, what));
    }

    /** The k-th line (0 .. 2); NONE if there is none such. */
    private static void proofIsOfThree() {
        MiddleSheet m = Due.of(TRIANGLE);
        rowIs("proof", new int[] {0, 1, 2}, k -> m.proof(k));
        answeredFrom(0, 2, NONE, "proof(k)", k -> m.proof(k));
    }

    /** NONE without: with a MIDDLE, or without VOTERS. */
    private static void proofIsWithoutMiddleAlone() {
        String[] texts = {"voter 1 1;", "voter 1 1;voter 2 2;", "voter 0 0;voter 4 0;voter 0 4;voter 4 4;",
            "voter 0 0;voter 4 0;voter 0 4;voter 1 1 by 3;"};
        for (String text : texts) {
            rowIs("with a MIDDLE, " + text, new int[] {NONE, NONE, NONE, NONE}, k -> Due.of(text).proof(k));
        }
        rowIs("of nothing", new int[] {NONE, NONE, NONE}, k -> new MiddleSheet().proof(k));
        MiddleSheet m = Due.of(TRIANGLE);
        DUE.is("ahead of a MOVE", m.proof(2), 2);
        m.move(2, 2, 0);
        DUE.is("with a MIDDLE then", m.proof(2), NONE);
        m.undo();
        DUE.is("again", m.proof(2), 2);
    }

    /** The first such three. The first three lines here all go through (5, 3), and so does no other of them. */
    private static void proofIsTheFirstThree() {
        MiddleSheet m = Due.of("voter 6 7;voter 5 3;voter 8 5;voter 6 5;voter 5 9;voter 7 5;");
        for (int k = 0; k < 3; k++) {
            DUE.is("through (5, 3) " + k, 5 * m.line(k, 0) + 3 * m.line(k, 1), m.line(k, 2));
        }
        DUE.is("not the fourth", 5 * m.line(3, 0) + 3 * m.line(3, 1) != m.line(3, 2), true);
        DUE.is("no MIDDLE", m.middle(NONE, 0), 0);
        rowIs("proof", new int[] {0, 1, 3}, k -> m.proof(k));
    }

    /** Lines of one direction have no place in common either. */
    private static void proofOfThoseThatNeverMeet() {
        MiddleSheet m = Due.of("voter 2 0;voter 6 8;voter 0 1;voter 6 2;voter 7 1;voter 1 0;");
        DUE.is("one direction, a", m.line(0, 0), m.line(1, 0));
        DUE.is("one direction, b", m.line(0, 1), m.line(1, 1));
        DUE.is("no MIDDLE", m.middle(NONE, 0), 0);
        rowIs("proof", new int[] {0, 1, 2}, k -> m.proof(k));
    }

    /** 0 x, 1 y, 2 p, 3 q; NONE for others, or without VOTERS. */
    private static void roundTellsFourThings() {
        MiddleSheet m = Due.of(TRIANGLE);
        rowIs("round", new int[] {1, 1, 2, 1, NONE, NONE}, what -> m.round(what));
        answeredFrom(0, 3, NONE, "round(what)", what -> m.round(what));
        rowIs("round of nothing", new int[] {NONE, NONE, NONE, NONE, NONE}, what -> new MiddleSheet().round(what));
    }

    /** 0 by 1 without HALVING LINES, at the first POINT. */
    private static void roundWithoutLines() {
        rowIs("one VOTER", new int[] {0, 0, 0, 1}, what -> Due.of("voter 99 99;").round(what));
        rowIs("one POINT", new int[] {0, 0, 0, 1}, what -> Due.of("voter 99 99;".repeat(15)).round(what));
        MiddleSheet m = Due.of("voter 50 10;voter 50 90;");
        DUE.is("with a line", m.round(0), 50);
        m.move(1, 50, 10);
        rowIs("no more", new int[] {0, 0, 0, 1}, what -> m.round(what));
    }

    /** Of like ones that with the least x, then y. */
    private static void roundOfLikeOnes() {
        rowIs("on one line, least x", new int[] {0, 7, 0, 1}, what -> Due.of("voter 50 7;voter 60 7;").round(what));
        rowIs("on one line, least y", new int[] {7, 0, 0, 1}, what -> Due.of("voter 7 50;voter 7 60;").round(what));
        rowIs("on x = y", new int[] {0, 0, 0, 1}, what -> Due.of("voter 7 7;voter 9 9;").round(what));
        rowIs("on x + y = 99", new int[] {0, 99, 0, 1}, what -> Due.of("voter 98 1;voter 97 2;").round(what));
        rowIs("x before y", new int[] {1, 0, 0, 1}, what -> Due.of("voter 2 50;voter 1 0;").round(what));
        rowIs("four alike", new int[] {4, 4, 9, 1}, what -> Due.of("voter 2 2;voter 7 2;voter 7 7;voter 2 7;").round(what));
        rowIs("one", new int[] {4, 4, 4, 1}, what -> Due.of("voter 2 2;voter 6 2;voter 6 6;voter 2 6;").round(what));
    }

    /** It is a POINT, so at a corner if the best place is there. */
    private static void roundStaysOnTheSheet() {
        rowIs("corner", new int[] {99, 99, 1, 2}, what -> Due.of("voter 99 99;voter 98 99;voter 99 98;").round(what));
        rowIs("(0, 99)", new int[] {0, 99, 1, 2}, what -> Due.of("voter 0 99;voter 1 99;voter 0 98;").round(what));
        rowIs("(99, 0)", new int[] {99, 0, 1, 2}, what -> Due.of("voter 99 0;voter 98 0;voter 99 1;").round(what));
        rowIs("(0, 0)", new int[] {0, 0, 1, 2}, what -> Due.of("voter 0 0;voter 1 0;voter 0 1;").round(what));
        // At (100, 46) the greatest square would be 9 by 2; the same at the other three sides.
        rowIs("x 99", new int[] {99, 46, 8, 1},
                what -> Due.of("voter 98 41;voter 99 48;voter 99 42;voter 98 48;").round(what));
        roundIs("voter 1 41;voter 0 48;voter 0 42;voter 1 48;");
        roundIs("voter 41 98;voter 48 99;voter 42 99;voter 48 98;");
        roundIs("voter 41 1;voter 48 0;voter 42 0;voter 48 1;");
    }

    /** p by q without a common part; 0 by 1 where all lines meet in a POINT. */
    private static void roundWithoutCommonPart() {
        rowIs("all meet", new int[] {5, 5, 0, 1}, what -> Due.of("voter 5 5 by 4;voter 0 0;voter 9 1;voter 1 8;").round(what));
        // To 2 x = 3 y, or x = y, whose squares are 13 and 2 below: worked out by all POINTS.
        roundIs("voter 0 0;voter 3 2;voter 10 0;voter 0 9;voter 6 6;");
    }

    /** As found by asking all POINTS. */
    private static void roundIs(String text) {
        long[] want = roundest(Due.of(text));
        DUE.is("x", Due.of(text).round(0), want[0]);
        DUE.is("y", Due.of(text).round(1), want[1]);
        DUE.is("p by q", Due.of(text).round(2) * want[3], want[2] * Due.of(text).round(3));
        long part = java.math.BigInteger.valueOf(want[2]).gcd(java.math.BigInteger.valueOf(want[3])).longValue();
        DUE.is("p", Due.of(text).round(2), want[2] / part);
    }

    private static long[] roundest(MiddleSheet m) {
        long[][] lines = new long[m.line(NONE, 0)][];
        for (int k = 0; k < lines.length; k++) {
            lines[k] = new long[] {m.line(k, 0), m.line(k, 1), m.line(k, 2)};
        }
        long[] best = null;
        for (int point = 0; point < 10000; point++) {
            long p = 0;
            long q = 1;
            for (long[] line : lines) {
                long a = line[0];
                long b = line[1];
                long off = a * (point / 100) + b * (point % 100) - line[2];
                if (off * off * q > p * (a * a + b * b)) {
                    p = off * off;
                    q = a * a + b * b;
                }
            }
            if (best == null || p * best[3] < best[2] * q) {
                best = new long[] {point / 100, point % 100, p, q};
            }
        }
        return best;
    }

    // ---- promises 17, 18, 25: WIN SET, PIECES, MOST AGAINST ----

    private static void askWinSets() {
        winSetTellsTwoThings();
        winSetOfNoneAndOfAll();
        winSetByBars();
        pieceTellsThreeThings();
        pieceHasNumbers();
        piecesHangTogetherByFourSides();
        piecesDoNotWrapAround();
        piecesByTheirFirstPoint();
        piecesFromTheFirstPointOfAll();
        piecesGoBackToLesserX();
        mostNeedsVoters();
        mostOfNoneAndOfAll();
    }

    /** 0 how many POINTS, 1 how many PIECES; NONE for others, without VOTERS. */
    private static void winSetTellsTwoThings() {
        MiddleSheet m = Due.of(TRIANGLE);
        rowIs("winSet", new int[] {3, 3, NONE, NONE}, what -> m.winSet(1, 1, what));
        answeredFrom(0, 1, NONE, "winSet(1, 1, what)", what -> m.winSet(1, 1, what));
        rowIs("winSet of nothing", new int[] {NONE, NONE, NONE}, what -> new MiddleSheet().winSet(1, 1, what));
    }

    private static void winSetOfNoneAndOfAll() {
        for (int corner : new int[] {0, 99, 9900, 9999}) {
            int x = corner / 100;
            int y = corner % 100;
            MiddleSheet m = Due.of("voter " + x + " " + y + ";");
            DUE.is("none, at the corner " + corner, m.winSet(x, y, 0), 0);
            DUE.is("no PIECE", m.winSet(x, y, 1), 0);
            DUE.is("no first", m.piece(x, y, 0, 0), NONE);
            DUE.is("all others, from the farthest", m.winSet(99 - x, 99 - y, 0), 9999);
            DUE.is("one PIECE", m.winSet(99 - x, 99 - y, 1), 1);
            DUE.is("all but the nearest two", m.winSet(x, 99 - y, 0), quarter(99));
        }
        // All POINTS are alike to those who look at x alone, in their column.
        DUE.is("a column", Due.of("near line;voter 0 0;").winSet(1, 99, 0), 100);
        DUE.is("no column", Due.of("near line;voter 0 0;").winSet(0, 99, 0), 0);
        DUE.is("all columns but one", Due.of("near line;voter 0 0;").winSet(99, 0, 0), 9900);
        DUE.is("over all never", Due.of("win over 1/1;voter 0 0;").winSet(99, 99, 0), 0);
    }

    /** How many POINTS are nearer than so far to a corner. */
    private static int quarter(int far) {
        int n = 0;
        for (int dx = 0; dx < 100; dx++) {
            for (int dy = 0; dy < 100; dy++) {
                n += dx * dx + dy * dy < far * far ? 1 : 0;
            }
        }
        return n;
    }

    /** All POINTS that BEAT it, by each bar: wins tells the same of each POINT. */
    private static void winSetByBars() {
        String rest = "voter 10 10 by 3;near street;voter 14 12 by 2;near side;stretch 2 1;voter 9 15;near line;voter 13 2;";
        String[] bars = {"", "win over 1/2;", "win over 5/7;", "win least 5/7;", "win least 1/2;", "win least 1/1;"};
        for (String bar : bars) {
            MiddleSheet m = Due.of(bar + rest);
            int n = 0;
            for (int point = 0; point < 10000; point++) {
                n += Due.of(bar + rest).wins(point, 1212) ? 1 : 0;
            }
            DUE.is(bar + "winSet", m.winSet(12, 12, 0), n);
            int sum = 0;
            for (int k = 0; k < m.winSet(12, 12, 1); k++) {
                sum += m.piece(12, 12, k, 2);
            }
            DUE.is(bar + "sum of PIECES", sum, n);
        }
    }

    /** 0 x and 1 y of its first POINT, 2 how many POINTS it has; NONE likewise. */
    private static void pieceTellsThreeThings() {
        MiddleSheet m = Due.of("voter 50 50;");
        rowIs("piece", new int[] {49, 49, 9, NONE, NONE}, what -> m.piece(50, 52, 0, what));
        answeredFrom(0, 2, NONE, "piece(50, 52, 0, what)", what -> m.piece(50, 52, 0, what));
        rowIs("piece of nothing", new int[] {NONE, NONE, NONE}, what -> new MiddleSheet().piece(1, 1, 0, what));
    }

    /** Or if there is none such. */
    private static void pieceHasNumbers() {
        MiddleSheet m = Due.of(TRIANGLE);
        for (int what = 0; what <= 2; what++) {
            int asked = what;
            answeredFrom(0, 2, NONE, "piece(1, 1, k, " + what + ")", k -> m.piece(1, 1, k, asked));
        }
        MiddleSheet none = Due.of("voter 1 1;");
        answeredFrom(0, -1, NONE, "piece(1, 1, k, 0) of none", k -> none.piece(1, 1, k, 0));
        answeredFrom(0, 0, NONE, "piece(1, 2, k, 0) of one", k -> none.piece(1, 2, k, 0));
    }

    /** Steps of 1 to the four sides: corners don't hang together. */
    private static void piecesHangTogetherByFourSides() {
        // (0, 1), (1, 0) and (2, 2) BEAT (1, 1); the first two touch by a corner alone.
        MiddleSheet m = Due.of(TRIANGLE);
        DUE.is("three by corners", m.winSet(1, 1, 1), 3);
        MiddleSheet plus = Due.of("near street;voter 50 50;");
        DUE.is("five", plus.winSet(52, 50, 0), 5);
        DUE.is("in one", plus.winSet(52, 50, 1), 1);
        DUE.is("first x", plus.piece(52, 50, 0, 0), 49);
        DUE.is("first y", plus.piece(52, 50, 0, 1), 50);
    }

    /** The last POINT of a column and the first one of the next don't hang together. */
    private static void piecesDoNotWrapAround() {
        // Two VOTERS are needed: the third, for x from 11 on, and one of the first two, whose discs touch at (10, 49).
        MiddleSheet m = Due.of("voter 10 99;voter 10 0;near line;voter 99 50;");
        int low = 0;
        int high = 0;
        for (int x = 11; x < 100; x++) {
            for (int y = 0; y < 100; y++) {
                low += (x - 10) * (x - 10) + y * y < 49 * 49 ? 1 : 0;
                high += (x - 10) * (x - 10) + (99 - y) * (99 - y) < 50 * 50 ? 1 : 0;
            }
        }
        DUE.is("(11, 99)", m.wins(1199, 1049), true);
        DUE.is("(12, 0)", m.wins(1200, 1049), true);
        DUE.is("POINTS", m.winSet(10, 49, 0), low + high);
        DUE.is("PIECES", m.winSet(10, 49, 1), 2);
        rowIs("the low one", new int[] {11, 0, low}, what -> m.piece(10, 49, 0, what));
        rowIs("the high one", new int[] {11, 50, high}, what -> m.piece(10, 49, 1, what));
        // The same from side to side: x 0 and x 99 are far apart.
        String sides = "voter 99 10;voter 0 10;near line;voter 49 10;voter 50 10;";
        DUE.is("sides", Due.of(sides).winSet(49, 10, 1), piecesOf(sides, 49, 10));
    }

    /** Counts PIECES anew: each POINT takes the least number next to it until nothing changes. */
    private static int piecesOf(String text, int x, int y) {
        int[] least = new int[10000];
        for (int i = 0; i < 10000; i++) {
            least[i] = Due.of(text).wins(i, x * 100 + y) ? i : NONE;
        }
        boolean changed = true;
        while (changed) {
            changed = false;
            for (int i = 0; i < 10000; i++) {
                int[] next = {i % 100 > 0 ? i - 1 : i, i % 100 < 99 ? i + 1 : i,
                    i >= 100 ? i - 100 : i, i < 9900 ? i + 100 : i};
                for (int j : next) {
                    if (least[i] != NONE && least[j] != NONE && least[j] < least[i]) {
                        least[i] = least[j];
                        changed = true;
                    }
                }
            }
        }
        int n = 0;
        for (int i = 0; i < 10000; i++) {
            n += least[i] == i ? 1 : 0;
        }
        return n;
    }

    /** In the order of their first POINT (by x, then y). */
    private static void piecesByTheirFirstPoint() {
        MiddleSheet m = Due.of(TRIANGLE);
        int[][] want = {{0, 1, 1}, {1, 0, 1}, {2, 2, 1}};
        for (int k = 0; k < want.length; k++) {
            int at = k;
            rowIs("piece " + k, want[k], what -> m.piece(1, 1, at, what));
        }
        // Asked out of order, and of another POINT in between, they are the same.
        DUE.is("the last", m.piece(1, 1, 2, 0), 2);
        DUE.is("of another POINT", m.piece(9, 9, 0, 0), 0);
        DUE.is("the first", m.piece(1, 1, 0, 1), 1);
        DUE.is("POINTS still", m.winSet(1, 1, 0), 3);
    }

    private static void piecesFromTheFirstPointOfAll() {
        MiddleSheet m = Due.of("voter 0 0;");
        rowIs("from (0, 0)", new int[] {0, 0, 4}, what -> m.piece(2, 0, 0, what));
        rowIs("(0, 0) alone", new int[] {0, 0, 1}, what -> m.piece(0, 1, 0, what));
        rowIs("to (99, 99)", new int[] {99, 99, 1}, what -> Due.of("voter 99 99;").piece(99, 98, 0, what));
    }

    /** Two discs that meet at x 10 .. 50 alone, and both begin at x 2, are one PIECE. */
    private static void piecesGoBackToLesserX() {
        MiddleSheet m = Due.of("voter 30 20;voter 30 60;near line;voter 0 0;");
        int n = 0;
        for (int point = 0; point < 10000; point++) {
            int dx = point / 100 - 30;
            int low = point % 100 - 20;
            int high = point % 100 - 60;
            int against = Integer.signum(dx * dx + low * low - 800) + Integer.signum(dx * dx + high * high - 800)
                    + Integer.signum(dx - 20);
            n += against < 0 ? 1 : 0;
        }
        DUE.is("POINTS", m.winSet(50, 40, 0), n);
        DUE.is("one PIECE", m.winSet(50, 40, 1), 1);
        rowIs("it", new int[] {2, 17, n}, what -> m.piece(50, 40, 0, what));
    }

    /** NONE without VOTERS. */
    private static void mostNeedsVoters() {
        DUE.is("most of nothing", new MiddleSheet().most(0, 0), NONE);
        DUE.is("most of one", Due.of("voter 0 0;").most(0, 0), 0);
    }

    private static void mostOfNoneAndOfAll() {
        MiddleSheet m = Due.of("voter 0 0 by 9;voter 99 99 by 8;voter 0 99 by 7;");
        DUE.is("at the first", m.most(0, 0), 15);
        DUE.is("at the second", m.most(99, 99), 16);
        DUE.is("at the third", m.most(0, 99), 17);
        DUE.is("far from all", m.most(99, 0), 24);
        DUE.is("at the first again", m.most(0, 0), 15);
        m.move(1, 0, 0);
        DUE.is("with two at the first", m.most(0, 0), 7);
        DUE.is("all alike", Due.of("near line;voter 5 5;voter 5 9;").most(5, 99), 0);
        DUE.is("whatever the bar", Due.of("win over 1/1;voter 5 5 by 4;").most(0, 0), 4);
    }

    // ---- promises 19 to 21: LED, TOP, OPEN, BETWEEN ----

    private static void askRows() {
        ledToItself();
        ledHasRows();
        ledIsTheShortest();
        ledByTheLeastNumbers();
        ledThroughAll();
        bestTellsTwoThings();
        bestOfNoneAndOfAll();
        topIsFromEachOther();
        openIsWhatNothingCovers();
        betweenIsTheFirst();
        betweenNeedsBoth();
    }

    /** 0 to itself. */
    private static void ledToItself() {
        MiddleSheet m = Due.of("voter 1 1;place 9 9;");
        DUE.is("votes", m.led(0, 0, NONE), 0);
        answeredFrom(NONE, 0, -2, "led(0, 0, k)", k -> m.led(0, 0, k) == NONE ? -2 : m.led(0, 0, k));
        MiddleSheet full = full();
        for (int p = 0; p < 20; p++) {
            DUE.is("votes " + p, full.led(p, p, NONE), 0);
            DUE.is("the first " + p, full.led(p, p, 0), p);
            DUE.is("no second " + p, full.led(p, p, 1), NONE);
        }
    }

    /** The k-th PLACE of the row (0: the first one). */
    private static void ledHasRows() {
        MiddleSheet m = Due.of(RING);
        rowIs("row", new int[] {0, 2, 1, NONE, NONE}, k -> m.led(0, 1, k));
        DUE.is("how many", m.led(0, 1, NONE), 2);
        answeredFrom(NONE, 2, NONE, "led(0, 1, k)", k -> m.led(0, 1, k));
        m.propose(99, 99);
        rowIs("can't be", new int[] {NONE, NONE, NONE}, k -> m.led(0, 3, k - 1));
        rowIs("can be", new int[] {3, 0}, k -> m.led(3, 0, k));
    }

    /** The shortest. */
    private static void ledIsTheShortest() {
        MiddleSheet m = Due.of("voter 5 5;place 5 9;place 5 8;place 5 7;place 5 6;");
        DUE.is("one vote, not three", m.led(0, 3, NONE), 1);
        rowIs("row", new int[] {0, 3, NONE}, k -> m.led(0, 3, k));
        DUE.is("never back", m.led(3, 0, NONE), NONE);
    }

    /** Of like ones the one with the least numbers from the first on: 0 then 4, not 1 then 3. */
    private static void ledByTheLeastNumbers() {
        MiddleSheet m = Due.of("voter 4 1;voter 1 5;voter 6 6;place 4 8;place 4 2;place 6 3;place 3 8;place 0 2;place 5 3;");
        int[][] steps = {{5, 0}, {0, 4}, {4, 2}, {5, 1}, {1, 3}, {3, 2}};
        for (int[] step : steps) {
            DUE.is(step[1] + " beats " + step[0], m.beats(step[1], step[0]), true);
        }
        DUE.is("votes", m.led(5, 2, NONE), 3);
        rowIs("row", new int[] {5, 0, 4, 2, NONE}, k -> m.led(5, 2, k));
        // Two at one POINT: the lesser number leads.
        MiddleSheet two = Due.of("place 0 0;place 30 0;place 15 26;place 15 26;voter 10 0;voter 25 9;voter 10 18;");
        rowIs("by the lesser", new int[] {0, 2, 1}, k -> two.led(0, 1, k));
    }

    /** Twenty PLACES: what all of them BEAT can be left, what BEATS all can be reached. */
    private static void ledThroughAll() {
        StringBuilder text = new StringBuilder("voter 0 0;");
        for (int p = 0; p < 20; p++) {
            text.append("place ").append(19 - p).append(" 0;");
        }
        MiddleSheet m = Due.of(text.toString());
        for (int p = 0; p < 19; p++) {
            DUE.is("to the last from " + p, m.led(p, 19, NONE), 1);
            DUE.is("from the last to " + p, m.led(19, p, NONE), NONE);
        }
        DUE.is("TOP", m.best(0), 1 << 19);
        DUE.is("OPEN", m.best(1), 1 << 19);
        DUE.is("pairs", m.count(5), 190);
    }

    /** TOP (0), OPEN (1); NONE for others, or without VOTERS. */
    private static void bestTellsTwoThings() {
        MiddleSheet m = Due.of(RING);
        answeredFrom(0, 1, NONE, "best(what)", what -> m.best(what));
        rowIs("best of nothing", new int[] {NONE, NONE, NONE}, what -> new MiddleSheet().best(what));
    }

    private static void bestOfNoneAndOfAll() {
        rowIs("no PLACES", new int[] {0, 0}, what -> Due.of("voter 1 1;").best(what));
        rowIs("one PLACE", new int[] {1, 1}, what -> Due.of("voter 1 1;place 99 99;").best(what));
        rowIs("twenty alike", new int[] {0, (1 << 20) - 1}, what -> Due.of("voter 1 1;" + "place 9 9;".repeat(20)).best(what));
        rowIs("a ring", new int[] {7, 7}, what -> Due.of(RING).best(what));
    }

    /** REACHES: a PLACE, if one can be LED from each other one to it. */
    private static void topIsFromEachOther() {
        // 0 is beaten by 1 alone, 2 is alike to both: from 2 one can't be led to 1.
        MiddleSheet m = Due.of("voter 0 0;voter 20 0;place 10 0;place 10 0;");
        DUE.is("alike", m.best(0), 0);
        MiddleSheet beaten = Due.of("voter 5 5;place 5 9;place 5 6;");
        DUE.is("the one that beats", beaten.best(0), 2);
        beaten.propose(6, 5);
        DUE.is("none, with one as near", beaten.best(0), 0);
        DUE.is("both are OPEN", beaten.best(1), 6);
        beaten.propose(5, 5);
        DUE.is("the nearest of all", beaten.best(0), 8);
    }

    /** OPEN are those that nothing COVERS. */
    private static void openIsWhatNothingCovers() {
        // In a ring of 3 and one behind: what all three BEAT is covered, as what BEATS one of them BEATS it too.
        MiddleSheet m = Due.of(RING);
        m.propose(99, 99);
        DUE.is("the last is covered", m.best(1), 7);
        // 2 BEATS 0, but 1 BEATS 2 and not 0, so that 2 doesn't cover 0.
        MiddleSheet ring = Due.of(RING);
        DUE.is("2 beats 0", ring.beats(2, 0), true);
        DUE.is("1 beats 2", ring.beats(1, 2), true);
        DUE.is("1 doesn't beat 0", ring.beats(1, 0), false);
        DUE.is("0 is OPEN", ring.best(1) & 1, 1);
        rowIs("covered by the first", new int[] {1, 1}, what -> Due.of("voter 5 5;place 5 5;place 9 9;").best(what));
        rowIs("covered by the last", new int[] {2, 2}, what -> Due.of("voter 5 5;place 9 9;place 5 5;").best(what));
        // OPEN needn't be TOP, nor TOP be OPEN.
        MiddleSheet apart = Due.of("voter 5 7;voter 4 1;voter 9 6;voter 0 8;voter 8 3;"
                + "place 7 0;place 2 9;place 3 1;place 7 2;place 9 8;place 1 6;");
        DUE.is("TOP", apart.best(0), literalTop(apart));
        DUE.is("OPEN", apart.best(1), literalOpen(apart));
        DUE.is("TOP isn't OPEN", apart.best(0) != apart.best(1), true);
    }

    private static int literalTop(MiddleSheet m) {
        int n = m.count(1);
        boolean[][] leads = new boolean[n][n];
        for (int i = 0; i < n; i++) {
            for (int j = 0; j < n; j++) {
                leads[i][j] = i == j || m.beats(j, i);
            }
        }
        for (int k = 0; k < n; k++) {
            for (int i = 0; i < n; i++) {
                for (int j = 0; j < n; j++) {
                    leads[i][j] |= leads[i][k] && leads[k][j];
                }
            }
        }
        int bits = 0;
        for (int j = 0; j < n; j++) {
            boolean all = true;
            for (int i = 0; i < n; i++) {
                all &= leads[i][j];
            }
            bits |= all ? 1 << j : 0;
        }
        return bits;
    }

    private static int literalOpen(MiddleSheet m) {
        int n = m.count(1);
        int bits = 0;
        for (int p = 0; p < n; p++) {
            boolean open = true;
            for (int q = 0; q < n; q++) {
                boolean covers = m.beats(q, p);
                for (int r = 0; r < n; r++) {
                    covers &= !m.beats(r, q) || m.beats(r, p);
                }
                open &= !covers;
            }
            bits |= open ? 1 << p : 0;
        }
        return bits;
    }

    /** The first POINT (by x, then y). */
    private static void betweenIsTheFirst() {
        MiddleSheet m = Due.of("voter 0 0;place 99 99;place 0 0;place 0 1;place 0 2;");
        DUE.is("(0, 1)", m.between(0, 1), 1);
        DUE.is("(0, 0), the first of all", Due.of("voter 1 0;place 99 99;place 1 0;").between(0, 1), 0);
        DUE.is("(0, 2), as (1, 0) is alike to (0, 1)", m.between(0, 2), 2);
        DUE.is("(0, 3)", m.between(0, 3), 3);
        DUE.is("x before y", Due.of("voter 50 50;place 50 60;place 50 50;").between(0, 1), 41 * 100 + 46);
        MiddleSheet last = Due.of("voter 99 99;place 0 0;place 99 98;");
        DUE.is("(0, 1) again", last.between(0, 1), 1);
        DUE.is("the last but one", Due.of("voter 99 99;place 99 97;place 99 99;").between(0, 1), 98 * 100 + 98);
    }

    /** That BEATS one PLACE and is beaten by another one; NONE without. */
    private static void betweenNeedsBoth() {
        MiddleSheet m = Due.of("voter 5 5;place 5 7;place 5 6;place 5 5;");
        DUE.is("nothing between 6 and 5", m.between(1, 2), NONE);
        DUE.is("(4, 4) between 7 and 6", m.between(0, 1), 404);
        DUE.is("(4, 4) between 7 and 5", m.between(0, 2), 404);
        DUE.is("not the other way", m.between(2, 0), NONE);
        DUE.is("not from a PLACE to itself", m.between(0, 0), NONE);
        DUE.is("over all", Due.of("win over 1/1;voter 5 5;place 0 0;place 5 5;").between(0, 1), NONE);
        DUE.is("least all", Due.of("win least 1/1;voter 5 5;place 0 0;place 5 5;").between(0, 1), 1);
    }

    // ---- promises 22 to 24: TWO PARTIES, NEED ----

    private static void askParties() {
        restIsOfTheFirstEight();
        restHasNoGainAboveNought();
        restIsTheLeast();
        lotIsOfTheFirstEight();
        lotHasNumbers();
        lotIsWithoutCommonPart();
        lotInBothTurns();
        lotOfFiveAndOfSeven();
        lotIsOfTheFewest();
        lotIsOfTheLeastBits();
        lotMayBeNone();
        needOfTheOnlyOne();
        needOfLikeOnes();
        needCountsAllTwenty();
    }

    /** Of the first 8. */
    private static void restIsOfTheFirstEight() {
        for (int n = 1; n <= 20; n++) {
            MiddleSheet m = Due.of("voter 5 5;" + "place 9 9;".repeat(n - 1) + "place 5 5;");
            DUE.is("the nearest is PLACE " + (n - 1), m.rest(), n <= 8 ? n - 1 : 0);
            DUE.is("PEACE sees all", m.peace(), n - 1);
        }
    }

    /** No gain is above 0: a gain of 0 leaves it a REST. NONE without, or without PLACES. */
    private static void restHasNoGainAboveNought() {
        DUE.is("5 to 5", vote("", 5, 5, 0).rest(), 0);
        DUE.is("5 to 6", vote("", 5, 6, 0).rest(), 1);
        DUE.is("6 to 5", vote("", 6, 5, 0).rest(), 0);
        DUE.is("by no bar", vote("win over 1/1;", 5, 6, 0).rest(), 1);
        DUE.is("a ring", Due.of(RING).rest(), NONE);
        DUE.is("a ring by a bar", Due.of("win over 1/1;" + RING).rest(), NONE);
        DUE.is("no PLACES", Due.of("voter 1 1;").rest(), NONE);
        DUE.is("of nothing", new MiddleSheet().rest(), NONE);
        DUE.is("one PLACE", Due.of("voter 1 1;place 9 9;").rest(), 0);
    }

    /** The least is told. */
    private static void restIsTheLeast() {
        DUE.is("all alike", Due.of("voter 5 5;" + "place 9 9;".repeat(8)).rest(), 0);
        DUE.is("three alike behind one", Due.of("voter 5 5;place 9 9;place 5 4;place 4 5;place 5 6;").rest(), 1);
    }

    private static void lotIsOfTheFirstEight() {
        for (int n = 1; n <= 20; n++) {
            MiddleSheet m = Due.of("voter 5 5;" + "place 9 9;".repeat(n - 1) + "place 5 5;");
            int chosen = n <= 8 ? n - 1 : 0;
            DUE.is("sum", m.lot(NONE), 1);
            for (int k = 0; k < 8; k++) {
                DUE.is("share " + k + " of " + n, m.lot(k), k >= n ? NONE : k == chosen ? 1 : 0);
            }
        }
    }

    /** The k-th PLACE (0 .. 7), or their sum (k NONE); NONE if no such PLACE. */
    private static void lotHasNumbers() {
        for (int n = 1; n <= 20; n++) {
            MiddleSheet m = Due.of("voter 5 5;" + "place 9 9;".repeat(n));
            answeredFrom(NONE, Math.min(8, n) - 1, NONE, "lot(k) of " + n, k -> m.lot(k));
        }
        MiddleSheet none = Due.of("voter 5 5;");
        answeredFrom(0, -1, NONE, "lot(k) without PLACES", k -> none.lot(k));
        DUE.is("sum without PLACES", none.lot(NONE), NONE);
        DUE.is("sum of nothing", new MiddleSheet().lot(NONE), NONE);
    }

    /** Whole numbers by their sum, without a common part. */
    private static void lotIsWithoutCommonPart() {
        // Each gain is of two or three VOTERS by 9, so 9 and 27 in place of 1 and 3.
        MiddleSheet m = Due.of(RING.replace(";voter 10 0;voter 25 9;voter 10 18;",
                ";voter 10 0 by 9;voter 25 9 by 9;voter 10 18 by 9;"));
        rowIs("a ring by 9", new int[] {3, 1, 1, 1, NONE}, k -> m.lot(k - 1));
        MiddleSheet heavy = Due.of(RING.replace(";voter 10 0;voter 25 9;voter 10 18;",
                ";voter 10 0 by 8;voter 25 9 by 6;voter 10 18 by 4;"));
        rowIs("by 8, 6 and 4", new int[] {9, 5, 1, 3, NONE}, k -> heavy.lot(k - 1));
    }

    /** Whichever way the ring turns. */
    private static void lotInBothTurns() {
        String voters = "voter 10 0 by 2;voter 25 9 by 2;voter 10 18 by 3;";
        MiddleSheet one = Due.of("place 0 0;place 30 0;place 15 26;" + voters);
        DUE.is("0 beats 1", one.beats(0, 1), true);
        rowIs("one way", new int[] {7, 1, 3, 3}, k -> one.lot(k - 1));
        MiddleSheet other = Due.of("place 30 0;place 0 0;place 15 26;" + voters);
        DUE.is("1 beats 0", other.beats(1, 0), true);
        rowIs("the other way", new int[] {7, 3, 1, 3}, k -> other.lot(k - 1));
    }

    private static void lotOfFiveAndOfSeven() {
        lotIs("voter 4 7;voter 6 10 by 2;voter 6 4;voter 11 13 by 3;voter 7 2 by 2;voter 12 9;place 4 10;place 1 11;"
                + "place 4 8;place 0 0;place 8 5;place 11 6;place 6 5;", new int[] {24, 6, 0, 2, 0, 3, 2, 11, NONE});
        lotIs("voter 12 12 by 2;voter 15 4 by 1;voter 10 14;voter 3 1;voter 3 4 by 2;place 5 11;place 9 0;place 4 9;"
                + "place 7 11;place 1 0;place 13 11;place 7 12;place 8 10;", new int[] {35, 0, 7, 7, 0, 0, 15, 3, 3, NONE});
        lotIs("voter 18 16;voter 13 2 by 1;voter 1 13;voter 13 0;voter 17 14;place 7 10;place 0 3;place 12 4;place 15 8;"
                + "place 15 6;place 7 5;place 9 12;place 12 15;", new int[] {76, 8, 0, 2, 14, 3, 10, 1, 38, NONE});
    }

    /** The sum, then the shares; against them nobody gains, and where they are above 0 the gain is 0. */
    private static void lotIs(String text, int[] want) {
        MiddleSheet m = Due.of(text);
        rowIs("lot of " + text, want, k -> m.lot(k - 1));
        for (int i = 0; i < m.count(1); i++) {
            int gain = 0;
            for (int j = 0; j < m.count(1); j++) {
                gain += (m.votes(i, j) - m.votes(j, i)) * m.lot(j);
            }
            DUE.is("gain of " + i, m.lot(i) > 0 ? gain == 0 : gain <= 0, true);
        }
    }

    /** Those of the fewest PLACES: a REST alone, though a ring of three is there too. */
    private static void lotIsOfTheFewest() {
        MiddleSheet m = Due.of(RING);
        DUE.is("three", m.lot(NONE), 3);
        // At a fourth PLACE nobody is for it or against it more than 0 or 1 of them in all.
        m.propose(99, 99);
        rowIs("three of four", new int[] {3, 1, 1, 1, 0}, k -> m.lot(k - 1));
        MiddleSheet five = Due.of("voter 5 5;place 5 6;place 9 9;place 8 8;place 5 4;");
        rowIs("one of four", new int[] {1, 1, 0, 0, 0, NONE}, k -> five.lot(k - 1));
    }

    /** Of like ones of the least bits: the ring of 0, 1, 2, not that of 0, 1, 3 with 3 where 2 is. */
    private static void lotIsOfTheLeastBits() {
        MiddleSheet m = Due.of("place 0 0;place 30 0;place 15 26;place 15 26;voter 10 0;voter 25 9;voter 10 18;");
        rowIs("the first ring", new int[] {3, 1, 1, 1, 0}, k -> m.lot(k - 1));
        MiddleSheet twice = Due.of("place 0 0;place 0 0;place 30 0;place 15 26;voter 10 0;voter 25 9;voter 10 18;");
        rowIs("by the first of two", new int[] {3, 1, 0, 1, 1}, k -> twice.lot(k - 1));
        rowIs("one of like ones", new int[] {1, 0, 1, 0}, k -> Due.of("voter 5 5;place 9 9;place 5 4;place 5 6;").lot(k - 1));
    }

    /** NONE if there are none: at some PLACES more than one is possible, and just one nowhere. */
    private static void lotMayBeNone() {
        MiddleSheet m = Due.of("voter 4 0 by 2;voter 1 2;voter 0 4 by 2;near street;voter 4 4 by 2;voter 4 3 by 2;"
                + "voter 0 2 by 2;voter 0 3 by 2;voter 3 2;near side;voter 2 0;"
                + "place 0 0;place 4 1;place 4 3;place 0 3;place 3 1;");
        for (int k = NONE; k < 8; k++) {
            DUE.is("lot(" + k + ")", m.lot(k), NONE);
        }
    }

    /** NONE if it is the only one. */
    private static void needOfTheOnlyOne() {
        MiddleSheet m = Due.of("voter 1 1;place 9 9;");
        DUE.is("the only one", m.need(0), NONE);
        DUE.is("LEAST NEED of one", m.need(NONE), NONE);
        DUE.is("no PLACES", Due.of("voter 1 1;").need(NONE), NONE);
        DUE.is("of nothing", new MiddleSheet().need(NONE), NONE);
        m.propose(1, 1);
        DUE.is("of two", m.need(0), 1);
        DUE.is("of the nearest", m.need(1), 0);
        DUE.is("LEAST NEED of two", m.need(NONE), 1);
    }

    /** The PLACE with the least one, of like ones the least. */
    private static void needOfLikeOnes() {
        DUE.is("all alike", Due.of("voter 5 5;" + "place 9 9;".repeat(20)).need(NONE), 0);
        DUE.is("behind one", Due.of("voter 5 5;place 9 9;place 5 4;place 5 6;").need(NONE), 1);
        DUE.is("a ring", Due.of(RING).need(NONE), 0);
        DUE.is("5 to 5", vote("", 5, 5, 0).need(NONE), 0);
        DUE.is("5 to 6", vote("", 5, 6, 0).need(NONE), 1);
    }

    /** Another PLACE: all 20 of them, not the first 8 alone. */
    private static void needCountsAllTwenty() {
        MiddleSheet m = Due.of("voter 5 5 by 7;" + "place 9 9;".repeat(19) + "place 5 5;");
        DUE.is("by the last", m.need(0), 7);
        DUE.is("of the last", m.need(19), 0);
        DUE.is("LEAST NEED", m.need(NONE), 19);
    }

    // ---- promises 26 to 28: PEACE, TO MAKE PEACE, JOINED ----

    private static void askPeace() {
        peaceIsTheLeast();
        peaceNeedsPlaces();
        makeTellsThreeThings();
        makeOfLikeOnes();
        makeTimesWeight();
        makeWhereHeIs();
        makeWithoutSuchMove();
        makeOfThoseAlikeToBoth();
        makeIsCrowWithoutStretch();
        makeMovesNobody();
        joinOfTheFirstNine();
        joinOfTheFewest();
        joinOfTheLeastBits();
        joinWithoutAny();
        joinOfThoseAlikeToBoth();
        joinAtTheBar();
    }

    private static void peaceIsTheLeast() {
        DUE.is("twenty alike", Due.of("voter 1 1;" + "place 9 9;".repeat(20)).peace(), 0);
        DUE.is("the twentieth", Due.of("voter 1 1;" + "place 9 9;".repeat(19) + "place 1 1;").peace(), 19);
        DUE.is("5 to 5", vote("", 5, 5, 0).peace(), 0);
        DUE.is("5 to 6", vote("", 5, 6, 0).peace(), 1);
    }

    private static void peaceNeedsPlaces() {
        DUE.is("no PLACES", Due.of("voter 1 1;").peace(), NONE);
        DUE.is("of nothing", new MiddleSheet().peace(), NONE);
        DUE.is("one PLACE", Due.of("voter 1 1;place 9 9;").peace(), 0);
        DUE.is("a ring", Due.of(RING).peace(), NONE);
        DUE.is("a ring by a bar", Due.of("win over 2/3;" + RING).peace(), 0);
    }

    /** 0 the VOTER, 1 the PLACE, 2 the square times WEIGHT; NONE for others. */
    private static void makeTellsThreeThings() {
        MiddleSheet m = Due.of(RING);
        rowIs("make", new int[] {2, 2, 89, NONE, NONE}, what -> m.make(what));
        answeredFrom(0, 2, NONE, "make(what)", what -> m.make(what));
    }

    /** Of like ones the least VOTER, then PLACE. */
    private static void makeOfLikeOnes() {
        rowIs("the least VOTER", new int[] {0, 0, 16}, what -> Due.of("voter 5 1;voter 5 9;voter 1 5;place 5 5;").make(what));
        rowIs("the least PLACE", new int[] {0, 0, 16}, what -> Due.of("voter 5 5;place 5 9;place 9 5;place 1 5;").make(what));
        rowIs("the VOTER ahead of the PLACE", new int[] {0, 1, 16},
                what -> Due.of("voter 5 5;voter 0 0;place 4 0;place 9 5;").make(what));
        rowIs("nearer by one", new int[] {1, 0, 16}, what -> Due.of("voter 5 0;voter 5 9;place 5 5;").make(what));
        rowIs("the second PLACE by one", new int[] {0, 1, 9}, what -> Due.of("voter 5 5;place 5 9;place 8 5;").make(what));
    }

    /** The square of the distance times his WEIGHT. */
    private static void makeTimesWeight() {
        rowIs("9 times 4 or 1 times 36", new int[] {0, 0, 36}, what -> Due.of("voter 5 7 by 9;voter 5 11;place 5 5;").make(what));
        rowIs("9 times 4 or 1 times 25", new int[] {1, 0, 25}, what -> Due.of("voter 5 7 by 9;voter 5 10;place 5 5;").make(what));
        rowIs("the farthest", new int[] {0, 0, 2 * 99 * 99 * 9}, what -> Due.of("voter 0 0 by 9;place 99 99;").make(what));
    }

    /** Who is there already comes there for nothing, if there is PEACE then. */
    private static void makeWhereHeIs() {
        rowIs("there", new int[] {1, 0, 0}, what -> Due.of("voter 9 9;voter 5 5 by 9;place 5 5;").make(what));
        rowIs("there, no PEACE", new int[] {2, 2, 89}, what -> Due.of(RING).make(what));
    }

    /** NONE if there is no such move. */
    private static void makeWithoutSuchMove() {
        String three = "voter 10 0;".repeat(3) + "voter 25 9;".repeat(3) + "voter 10 18;".repeat(3);
        MiddleSheet m = Due.of("place 0 0;place 30 0;place 15 26;" + three);
        rowIs("three of each", new int[] {NONE, NONE, NONE}, what -> m.make(what));
        for (int v = 0; v < 9; v++) {
            for (int p = 0; p < 3; p++) {
                m.move(v, m.place(p, 0), m.place(p, 1));
                DUE.is("no PEACE by " + v + " at " + p, m.peace(), NONE);
                m.undo();
            }
        }
        rowIs("no PLACES", new int[] {NONE, NONE, NONE}, what -> Due.of("voter 1 1;").make(what));
        rowIs("of nothing", new int[] {NONE, NONE, NONE}, what -> new MiddleSheet().make(what));
    }

    /** To whom two PLACES were alike had no part in FOR: the bar isn't met by less without him. */
    private static void makeOfThoseAlikeToBoth() {
        rowIs("least 1/2", new int[] {0, 1, 4}, what -> Due.of("win least 1/2;near side;voter 4 6;voter 0 5;near crow;"
                + "voter 0 3;near street;voter 4 3;near side;voter 6 6;place 0 1;place 6 6;place 4 0;").make(what));
        rowIs("over 1/2", new int[] {3, 1, 4}, what -> Due.of("win over 1/2;voter 2 3;voter 2 3;near side;voter 3 2;"
                + "voter 0 0;voter 2 0;place 4 1;place 0 2;place 2 0;place 1 0;").make(what));
    }

    /** Crow, without stretch, whatever his measure. */
    private static void makeIsCrowWithoutStretch() {
        for (String near : new String[] {"crow", "street", "side", "line"}) {
            rowIs("near " + near, new int[] {0, 0, 25},
                    what -> Due.of("near " + near + ";stretch 9 7;voter 1 1;place 4 5;").make(what));
        }
    }

    /** Asking moves nobody. */
    private static void makeMovesNobody() {
        MiddleSheet m = Due.of(RING);
        m.make(0);
        m.join(0);
        m.doubt(0, 5);
        rowIs("where he was", new int[] {10, 18}, what -> m.voter(2, what));
        DUE.is("no MOVES", m.count(3), 0);
        DUE.is("no PEACE", m.peace(), NONE);
    }

    /** Of the first 9: the ninth may come, the tenth may not. */
    private static void joinOfTheFirstNine() {
        MiddleSheet ninth = Due.of("voter 9 9;".repeat(8) + "voter 0 0 by 9;place 9 9;place 0 0;");
        DUE.is("the ninth", ninth.join(0), 1 << 8);
        MiddleSheet tenth = Due.of("voter 9 9;".repeat(9) + "voter 0 0 by 9;voter 0 0;place 9 9;place 0 0;");
        DUE.is("the tenth", tenth.join(0), NONE);
        DUE.is("as it is", tenth.join(1), 0);
        MiddleSheet few = Due.of("voter 0 0;place 9 9;place 0 0;");
        DUE.is("of one VOTER", few.join(0), 1);
    }

    /** The fewest; none if it stands as it is. */
    private static void joinOfTheFewest() {
        MiddleSheet m = Due.of("voter 0 0;voter 0 0;voter 0 0;voter 0 0 by 3;place 9 9;place 0 0;");
        DUE.is("one by 3, not three by 1", m.join(0), 8);
        MiddleSheet turned = Due.of("voter 0 0;voter 0 0;voter 0 0;voter 0 0 by 3;place 0 0;place 9 9;");
        DUE.is("at the second PLACE", turned.join(1), 8);
        DUE.is("none at the first", turned.join(0), 0);
        DUE.is("none", m.join(1), 0);
        DUE.is("the only PLACE", Due.of("voter 0 0;place 9 9;").join(0), 0);
        for (int n = 1; n <= 9; n++) {
            int half = (n + 1) / 2;
            DUE.is("half of " + n, Due.of("voter 0 0;".repeat(n) + "place 9 9;place 0 0;").join(0), (1 << half) - 1);
        }
    }

    /** Of like ones the least bits. */
    private static void joinOfTheLeastBits() {
        MiddleSheet m = Due.of("voter 9 9;voter 0 0;voter 0 0;voter 0 0;place 9 9;place 0 0;");
        DUE.is("the second, as the first is there", m.join(0), 2);
        MiddleSheet weighs = Due.of("voter 0 0;voter 0 0 by 2;voter 0 0 by 2;voter 0 0;place 9 9;place 0 0;");
        DUE.is("two of them: 1 and 2 make it, 0 and 1 too", weighs.join(0), 3);
        MiddleSheet heavy = Due.of("voter 0 0;voter 0 0 by 2;voter 0 0 by 3;voter 0 0 by 3;place 9 9;place 0 0;");
        DUE.is("1 and 2, not 2 and 3", heavy.join(0), 6);
    }

    /** NONE if all of these don't make it: 9 against 9 stands, 9 against 10 doesn't. */
    private static void joinWithoutAny() {
        MiddleSheet even = Due.of("voter 0 0;".repeat(9) + "voter 0 0 by 9;place 9 9;place 0 0;");
        DUE.is("9 against 9", even.join(0), 511);
        MiddleSheet odd = Due.of("voter 0 0;".repeat(9) + "voter 0 0 by 9;voter 0 0;place 9 9;place 0 0;");
        DUE.is("9 against 10", odd.join(0), NONE);
        DUE.is("of nothing", new MiddleSheet().join(0), NONE);
    }

    /** To whom both are alike is for none, where he was and where he comes. */
    private static void joinOfThoseAlikeToBoth() {
        String voters = "near line;voter 0 0;near crow;voter 5 9;";
        DUE.is("he is of no help", Due.of(voters + "place 5 5;place 5 9;").join(0), 2);
        DUE.is("nor at the second PLACE", Due.of(voters + "place 5 9;place 5 5;").join(1), 2);
        DUE.is("nor of harm", Due.of(voters + "place 5 5;place 5 9;").join(1), 0);
        // Alike ahead, for it behind: he helps.
        DUE.is("alike ahead alone", Due.of("voter 5 7;voter 5 9;voter 5 9;place 5 5;place 5 9;").join(0), 2);
        DUE.is("with one more", Due.of("voter 5 7;voter 5 9;place 5 5;place 5 9;").join(0), 1);
    }

    /** So that no other PLACE BEATS it, by the bar. */
    private static void joinAtTheBar() {
        String eight = "voter 0 0;".repeat(8) + "place 9 9;place 0 0;";
        DUE.is("over 3/4: 2 of 8", Due.of("win over 3/4;" + eight).join(0), 3);
        DUE.is("least 3/4: 3 of 8", Due.of("win least 3/4;" + eight).join(0), 7);
        DUE.is("over 1/1: none", Due.of("win over 1/1;" + eight).join(0), 0);
        DUE.is("least 1/1: 1 of 8", Due.of("win least 1/1;" + eight).join(0), 1);
        // By all 20 PLACES, the last of them too.
        MiddleSheet last = Due.of("voter 0 0;voter 0 0;" + "place 9 9;".repeat(19) + "place 0 0;");
        DUE.is("by the last PLACE", last.join(0), 1);
    }

    // ---- promise 29: DOUBT ----

    private static void askDoubt() {
        doubtIsNoughtToFive();
        doubtReachesSoFarEachWay();
        doubtReachesTheCorners();
        doubtEndsAtTheEdge();
        doubtOfTheOnlyOne();
        doubtCountsAlikeAtNone();
        doubtIsNotIfSomePlaceBeats();
        doubtAtTheBar();
        doubtFromWhereHeCame();
    }

    /** DOUBT e (0 .. 5); NONE if e can't be. */
    private static void doubtIsNoughtToFive() {
        MiddleSheet m = Due.of("voter 50 50;place 50 50;place 60 50;");
        answeredFrom(0, 5, NONE, "doubt(0, e)", e -> m.doubt(0, e));
        answeredFrom(0, 5, NONE, "doubt(1, e)", e -> m.doubt(1, e));
        DUE.is("of nothing", new MiddleSheet().doubt(0, 0), NONE);
    }

    /** At any POINT not further than e: at just e he may be alike to both, at e - 1 not. */
    private static void doubtReachesSoFarEachWay() {
        int[][] ways = {{1, 0}, {-1, 0}, {0, 1}, {0, -1}};
        for (int[] way : ways) {
            for (int e = 1; e <= 5; e++) {
                int x = 50 + 2 * e * way[0];
                int y = 50 + 2 * e * way[1];
                MiddleSheet m = Due.of("voter 50 50;place 50 50;place " + x + " " + y + ";");
                String at = " by " + e + ", " + x + " " + y;
                DUE.is("sure" + at, m.doubt(0, e - 1), 2);
                DUE.is("not sure" + at, m.doubt(0, e), 1);
                DUE.is("surely beaten" + at, m.doubt(1, e - 1), 0);
                DUE.is("not surely beaten" + at, m.doubt(1, e), 1);
            }
        }
    }

    /** Each way by itself: to the corners of a square. */
    private static void doubtReachesTheCorners() {
        int[][] ways = {{1, 1}, {-1, 1}, {1, -1}, {-1, -1}};
        for (int[] way : ways) {
            for (int e = 1; e <= 5; e++) {
                int x = 50 + 2 * e * way[0];
                int y = 50 + 2 * e * way[1];
                MiddleSheet m = Due.of("voter 50 50;place 50 50;place " + x + " " + y + ";");
                DUE.is("sure, corner " + x + " " + y, m.doubt(0, e - 1), 2);
                DUE.is("not sure, corner " + x + " " + y, m.doubt(0, e), 1);
            }
        }
    }

    /** A POINT is 0 .. 99 each way: beyond the edge he can't be. */
    private static void doubtEndsAtTheEdge() {
        // By dy alone one step out he would be for the other; from 0 or 99 there is no such step.
        String[] edges = {"voter 99 50;place 90 50;place 99 61;", "voter 50 99;place 50 90;place 61 99;",
            "voter 0 50;place 9 50;place 0 61;", "voter 50 0;place 50 9;place 61 0;"};
        for (String text : edges) {
            DUE.is("at the edge: " + text, Due.of(text).doubt(0, 1), 2);
        }
        // One step from the edge he may come to it.
        MiddleSheet one = Due.of("voter 1 50;place 9 50;place 0 58;");
        DUE.is("told", one.doubt(0, 0), 2);
        DUE.is("by 1", one.doubt(0, 1), 1);
        for (int corner : new int[] {0, 99, 9900, 9999}) {
            int x = corner / 100;
            int y = corner % 100;
            MiddleSheet m = Due.of("voter " + x + " " + y + ";place " + x + " " + y + ";place 50 50;");
            for (int e = 0; e <= 5; e++) {
                DUE.is("corner " + corner + " by " + e, m.doubt(0, e), 2);
            }
        }
    }

    /** No other PLACE: nothing can BEAT it. */
    private static void doubtOfTheOnlyOne() {
        MiddleSheet m = Due.of("voter 0 0;place 99 99;");
        for (int e = 0; e <= 5; e++) {
            DUE.is("the only one by " + e, m.doubt(0, e), 2);
        }
        m.propose(99, 99);
        DUE.is("two at one POINT", m.doubt(0, 5), 2);
        m.propose(0, 0);
        DUE.is("by a third", m.doubt(0, 5), 0);
    }

    /** Alike to both at all of these: neither FOR nor AGAINST. */
    private static void doubtCountsAlikeAtNone() {
        String alike = "near line;voter 50 50 by 9;near crow;";
        DUE.is("1 against 0", Due.of(alike + "voter 0 0;place 0 50;place 0 0;").doubt(0, 5), 0);
        DUE.is("0 against 1", Due.of(alike + "voter 0 0;place 0 50;place 0 0;").doubt(1, 5), 2);
        DUE.is("alike alone", Due.of("near line;voter 50 50;place 0 50;place 0 0;").doubt(0, 5), 2);
        // Alike where he is told, but not at all of these.
        DUE.is("alike at one", Due.of("voter 50 50;place 40 50;place 60 50;").doubt(0, 0), 2);
        DUE.is("alike at one, by 1", Due.of("voter 50 50;place 40 50;place 60 50;").doubt(0, 1), 1);
    }

    /** NOT (0), if some PLACE BEATS it with FOR just those who are SURELY RATHER for that, AGAINST all others. */
    private static void doubtIsNotIfSomePlaceBeats() {
        String places = "place 0 0;place 80 0;";
        DUE.is("2 sure, 1 unsure", Due.of("voter 0 0;voter 0 0;voter 40 0;" + places).doubt(1, 1), 0);
        DUE.is("1 sure, 1 unsure", Due.of("voter 0 0;voter 40 0;" + places).doubt(1, 1), 1);
        DUE.is("1 sure, 1 unsure, 1 for it", Due.of("voter 0 0;voter 40 0;voter 80 0;" + places).doubt(1, 1), 1);
        DUE.is("1 sure, 1 unsure, 2 for it", Due.of("voter 0 0;voter 40 0;voter 80 0 by 2;" + places).doubt(1, 1), 2);
        DUE.is("1 sure, 2 for it", Due.of("voter 0 0;voter 80 0 by 2;" + places).doubt(1, 1), 2);
        DUE.is("by the last of 20", Due.of("voter 0 0;" + "place 80 0;".repeat(19) + "place 0 0;").doubt(0, 5), 0);
        // One PLACE can BEAT it, another one surely does.
        DUE.is("1 and 0 are 0", Due.of("voter 50 50;place 52 50;place 49 50;place 50 50;").doubt(0, 1), 1);
        DUE.is("one alone", Due.of("voter 50 50;place 60 50;place 58 50;place 50 50;").doubt(0, 1), 0);
    }

    /** By the bar, with all WEIGHTS. */
    private static void doubtAtTheBar() {
        String rest = "voter 0 0 by 3;voter 50 0;voter 99 0;place 0 0;place 99 0;";
        DUE.is("least 3/5: 3 of 5 surely", Due.of("win least 3/5;" + rest).doubt(1, 5), 0);
        DUE.is("over 3/5: 3 of 5, 4 perhaps", Due.of("win over 3/5;" + rest).doubt(1, 5), 1);
        DUE.is("over 4/5: 4 of 5 at most", Due.of("win over 4/5;" + rest).doubt(1, 5), 2);
        DUE.is("least 4/5: 4 of 5 perhaps", Due.of("win least 4/5;" + rest).doubt(1, 5), 1);
        DUE.is("least 1/1: not all", Due.of("win least 1/1;" + rest).doubt(1, 5), 2);
    }

    private static void doubtFromWhereHeCame() {
        MiddleSheet m = Due.of("voter 0 0;place 0 0;place 50 50;");
        DUE.is("ahead of the MOVE", m.doubt(1, 5), 0);
        m.move(0, 50, 50);
        DUE.is("behind the MOVE", m.doubt(1, 5), 2);
        m.undo();
        DUE.is("taken back", m.doubt(1, 5), 0);
    }

    // ---- promises 30 to 32: MOVES ----

    private static void askMoves() {
        moveNeedsAnotherPoint();
        movesAreAtMostForty();
        movesAreForgottenBySheet();
        undoTakesTheLastBack();
        undoLeavesPlaces();
        movedHasNumbers();
        movedTellsNineThings();
        movedAsPlacesWereThen();
    }

    /** NONE if he is there. */
    private static void moveNeedsAnotherPoint() {
        MiddleSheet m = Due.of("voter 5 6;");
        DUE.is("there", m.move(0, 5, 6), NONE);
        DUE.is("other y", m.move(0, 5, 7), 1);
        DUE.is("there now", m.move(0, 5, 7), NONE);
        DUE.is("other x", m.move(0, 6, 7), 2);
        DUE.is("where he was at first", m.move(0, 5, 6), 3);
        DUE.is("without VOTERS", new MiddleSheet().move(0, 0, 0), NONE);
        MiddleSheet corner = Due.of("voter 0 0;");
        DUE.is("to the farthest", corner.move(0, 99, 99), 1);
        DUE.is("and back", corner.move(0, 0, 0), 2);
    }

    /** NONE if 40 are. */
    private static void movesAreAtMostForty() {
        MiddleSheet m = Due.of("voter 0 0;voter 1 1;place 0 0;place 1 1;");
        for (int n = 1; n <= 40; n++) {
            DUE.is("move " + n, m.move(n % 2, 50, n), n);
        }
        DUE.is("the 41st", m.move(0, 0, 0), NONE);
        DUE.is("of the other", m.move(1, 0, 0), NONE);
        DUE.is("40 are", m.count(3), 40);
        DUE.is("where he is", m.voter(0, 1), 40);
        DUE.is("the 40th", m.moved(39, 4), 40);
        DUE.is("no 41st", m.moved(40, 0), NONE);
        DUE.is("undo", m.undo(), 0);
        DUE.is("the 40th again", m.move(1, 0, 0), 40);
        DUE.is("whose", m.moved(39, 0), 1);
        for (int n = 40; n >= 1; n--) {
            DUE.is("undo " + n, m.undo(), n == 40 ? 1 : n % 2);
            DUE.is("left", m.count(3), n - 1);
        }
        DUE.is("undo of none", m.undo(), NONE);
        rowIs("0 as told", new int[] {0, 0}, what -> m.voter(0, what));
        rowIs("1 as told", new int[] {1, 1}, what -> m.voter(1, what));
    }

    /** Nothing was moved, once a SHEET came; one with a FAULT leaves MOVES alone. */
    private static void movesAreForgottenBySheet() {
        MiddleSheet m = Due.of("voter 0 0;");
        for (int n = 1; n <= 40; n++) {
            m.move(0, n, n);
        }
        m.sheet();
        DUE.is("40 still", m.count(3), 40);
        Due.write(m, "voter 5 5;");
        m.sheet();
        DUE.is("none", m.count(3), 0);
        DUE.is("nothing to take back", m.undo(), NONE);
        DUE.is("as told", m.voter(0, 0), 5);
        DUE.is("moved", m.moved(0, 0), NONE);
        DUE.is("the first", m.move(0, 6, 6), 1);
    }

    /** The last MOVE is taken back: whose it was; NONE without. */
    private static void undoTakesTheLastBack() {
        MiddleSheet m = Due.of("voter 0 99;voter 99 0;");
        DUE.is("without", m.undo(), NONE);
        m.move(1, 5, 5);
        m.move(0, 6, 6);
        m.move(0, 7, 7);
        DUE.is("0 again", m.undo(), 0);
        rowIs("where 0 was", new int[] {6, 6}, what -> m.voter(0, what));
        DUE.is("0", m.undo(), 0);
        rowIs("where 0 was told", new int[] {0, 99}, what -> m.voter(0, what));
        DUE.is("1", m.undo(), 1);
        rowIs("where 1 was told", new int[] {99, 0}, what -> m.voter(1, what));
        DUE.is("no more", m.undo(), NONE);
        DUE.is("of nothing", new MiddleSheet().undo(), NONE);
    }

    /** A PLACE that came behind a MOVE stays when it is taken back. */
    private static void undoLeavesPlaces() {
        MiddleSheet m = Due.of("voter 0 0;place 0 0;");
        m.move(0, 9, 9);
        m.propose(9, 9);
        DUE.is("behind", m.peace(), 1);
        m.undo();
        DUE.is("two PLACES", m.count(1), 2);
        DUE.is("taken back", m.peace(), 0);
    }

    private static void movedHasNumbers() {
        MiddleSheet m = Due.of("voter 0 0;");
        answeredFrom(0, -1, NONE, "moved(k, 0) of none", k -> m.moved(k, 0));
        for (int n = 1; n <= 40; n++) {
            m.move(0, n, n);
            DUE.is("the last of " + n, m.moved(n - 1, 3), n);
            DUE.is("behind the last of " + n, m.moved(n, 3), NONE);
        }
        answeredFrom(0, 39, NONE, "moved(k, 0) of 40", k -> m.moved(k, 0));
        m.undo();
        answeredFrom(0, 38, NONE, "moved(k, 0) of 39", k -> m.moved(k, 0));
    }

    /** 0 .. 8; NONE for others. */
    private static void movedTellsNineThings() {
        MiddleSheet m = Due.of("voter 0 0;voter 1 2;place 0 0;place 9 9;");
        m.move(1, 9, 9);
        rowIs("moved", new int[] {1, 1, 2, 9, 9, 1, 0, 0, 0, NONE, NONE}, what -> m.moved(0, what));
        answeredFrom(0, 8, NONE, "moved(0, what)", what -> m.moved(0, what));
        MiddleSheet without = Due.of("voter 0 0;");
        without.move(0, 9, 9);
        rowIs("without PLACES", new int[] {0, 0, 0, 9, 9, 0, 0, NONE, NONE}, what -> without.moved(0, what));
        MiddleSheet ring = Due.of(RING);
        ring.move(0, 30, 0);
        rowIs("from a ring to PEACE", new int[] {0, 10, 0, 30, 0, 3, 3, NONE, 1}, what -> ring.moved(0, what));
        ring.move(0, 10, 0);
        rowIs("and back", new int[] {0, 30, 0, 10, 0, 3, 3, 1, NONE}, what -> ring.moved(1, what));
    }

    /** As PLACES were then: those that come later change nothing of it. */
    private static void movedAsPlacesWereThen() {
        MiddleSheet m = Due.of("voter 0 0;place 50 50;");
        m.move(0, 9, 9);
        m.propose(9, 9);
        m.move(0, 50, 50);
        m.propose(0, 0);
        rowIs("the first", new int[] {0, 0, 0, 9, 9, 0, 0, 0, 0}, what -> m.moved(0, what));
        rowIs("the second", new int[] {0, 9, 9, 50, 50, 1, 1, 1, 0}, what -> m.moved(1, what));
        DUE.is("pairs now", m.count(5), 3);
    }

    // ---- promise 33: count; and how long an object is used ----

    private static void askCounts() {
        countTellsSixThings();
        countOfNoneAndOfAll();
        pairsOfNoneAndOfAll();
        usedFor512Calls();
    }

    private static void countTellsSixThings() {
        MiddleSheet m = Due.of("voter 1 1 by 2;voter 1 1 by 3;voter 1 1 by 4;place 1 1;place 5 5;");
        m.move(0, 2, 2);
        Due.write(m, "1234567");
        rowIs("count", new int[] {3, 2, 9, 1, 7, 1, NONE, NONE}, what -> m.count(what));
        answeredFrom(0, 5, NONE, "count(what)", what -> m.count(what));
        MiddleSheet none = new MiddleSheet();
        answeredFrom(0, 5, NONE, "count(what) of nothing", what -> none.count(what));
    }

    private static void countOfNoneAndOfAll() {
        rowIs("nothing", new int[] {0, 0, 0, 0, 0, 0}, what -> new MiddleSheet().count(what));
        MiddleSheet m = full();
        for (int n = 1; n <= 40; n++) {
            m.move(0, n, n);
        }
        Due.write(m, " ".repeat(600));
        rowIs("full", new int[] {15, 20, 135, 40, 600}, what -> m.count(what));
    }

    /** Pairs of PLACES of which one BEATS the other: each pair once. */
    private static void pairsOfNoneAndOfAll() {
        DUE.is("twenty alike", Due.of("voter 1 1;" + "place 9 9;".repeat(20)).count(5), 0);
        DUE.is("one against 19", Due.of("voter 1 1;" + "place 9 9;".repeat(19) + "place 1 1;").count(5), 19);
        DUE.is("one PLACE", Due.of("voter 1 1;place 9 9;").count(5), 0);
        DUE.is("5 to 5", vote("", 5, 5, 0).count(5), 0);
        DUE.is("5 to 6", vote("", 5, 6, 0).count(5), 1);
        DUE.is("a ring", Due.of(RING).count(5), 3);
    }

    /** An object is used for at most 512 calls: the last of them is answered like the first. */
    private static void usedFor512Calls() {
        MiddleSheet m = new MiddleSheet();
        int calls = 0;
        for (int n = 0; n < 50; n++) {
            m.feed(0x766f7465, 0x72203020, 0x303b766f, 0x74657220, 0x3920303b);
            m.sheet();
            m.propose(0, 0);
            m.propose(9, 0);
            m.move(1, 0, n + 1);
            DUE.is("MOST " + n, m.most(0, 0), 1);
            DUE.is("lines " + n, m.line(NONE, 0), 1);
            m.undo();
            DUE.is("again " + n, m.most(9, 0), 1);
            calls += 9;
        }
        while (calls < 510) {
            DUE.is("move", m.move(0, 99, 99), 1);
            DUE.is("undo", m.undo(), 0);
            calls += 2;
        }
        DUE.is("call 511", m.move(0, 50, 50), 1);
        DUE.is("call 512", m.most(50, 50), 1);
    }
}
