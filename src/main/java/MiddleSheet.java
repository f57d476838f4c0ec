import java.util.Arrays;

/** Where the middle lies: voters as points on a sheet, and what beats what. */
public final class MiddleSheet {
    /** There is none. */
    public static final int NONE = -1;
    /** There is none of what may be below 0. */
    public static final int VOID = -2147483648;

    private static final int WIDE = 100;
    private static final int POINTS = WIDE * WIDE;
    private static final int MOST_BYTES = 600;
    private static final int FED_AT_ONCE = 20;
    private static final int MOST_VOTERS = 15;
    private static final int MOST_PLACES = 20;
    private static final int MOST_MOVES = 40;
    private static final int MOST_PARTY_PLACES = 8;
    private static final int MOST_JOINING = 9;
    private static final int MOST_DOUBT = 5;

    private static final int CROW = 0;
    private static final int STREET = 1;
    private static final int SIDE = 2;
    private static final int LINE = 3;

    private static final int MORE = 0;
    private static final int OVER = 1;
    private static final int LEAST = 2;

    private final Sheet told;
    private final Reader reader;
    private final Duels duels;
    private final Lines lines;
    private final Middles middles;
    private final Round around;
    // Made when it is first needed: it is large, and many an object never needs it.
    private Field field;
    private final Lots lots;
    private final Standing standing;
    private final Moves moves;

    /** No VOTERS, no PLACES. */
    public MiddleSheet() {
        told = new Sheet();
        reader = new Reader();
        duels = new Duels(told);
        lines = new Lines(told);
        middles = new Middles(told, lines);
        around = new Round(lines);
        lots = new Lots(duels);
        standing = new Standing(duels);
        moves = new Moves();
    }

    /** Twenty bytes more of the text, of each number the highest first. */
    public int feed(int a, int b, int c, int d, int e) {
        if (reader.length > MOST_BYTES - FED_AT_ONCE) {
            return NONE;
        }
        reader.append(a);
        reader.append(b);
        reader.append(c);
        reader.append(d);
        reader.append(e);
        return reader.length;
    }

    /** The text has its first n bytes alone. */
    public boolean end(int n) {
        if (n < 0 || n > reader.length) {
            return false;
        }
        reader.length = n;
        return true;
    }

    /** The FAULT of the text as a SHEET. */
    public int fault() {
        return reader.findFault();
    }

    /** The SHEET comes of the text: how many VOTERS. */
    public int sheet() {
        if (reader.findFault() != NONE) {
            return NONE;
        }
        told.takeFrom(reader.draft);
        reader.length = 0;
        moves.size = 0;
        return told.voters;
    }

    /** Of a VOTER: x, y, WEIGHT, measure and stretch. */
    public int voter(int voter, int what) {
        if (!told.hasVoter(voter)) {
            return NONE;
        }
        switch (what) {
            case 0:
                return told.x[voter];
            case 1:
                return told.y[voter];
            case 2:
                return told.weight[voter];
            case 3:
                return told.measure[voter];
            case 4:
                return told.stretchX[voter];
            case 5:
                return told.stretchY[voter];
            default:
                return NONE;
        }
    }

    /** A PLACE: x or y. */
    public int place(int place, int what) {
        if (!told.hasPlace(place)) {
            return NONE;
        }
        if (what == 0) {
            return told.placeX[place];
        }
        return what == 1 ? told.placeY[place] : NONE;
    }

    /** A PLACE more: its number. */
    public int propose(int x, int y) {
        if (told.voters == 0 || !isPoint(x, y) || told.places >= MOST_PLACES) {
            return NONE;
        }
        told.addPlace(x, y);
        return told.places - 1;
    }

    /** THE WAY of a VOTER to a POINT. */
    public int way(int voter, int x, int y) {
        if (!told.hasVoter(voter) || !isPoint(x, y)) {
            return NONE;
        }
        return told.wayTo(voter, x, y);
    }

    /** FOR of a PLACE against another one. */
    public int votes(int one, int other) {
        if (!told.hasPlace(one) || !told.hasPlace(other)) {
            return NONE;
        }
        duels.refresh();
        return duels.forOf(one, other);
    }

    /** Whether a PLACE BEATS another one. */
    public boolean beats(int one, int other) {
        if (!told.hasPlace(one) || !told.hasPlace(other)) {
            return false;
        }
        duels.refresh();
        return duels.isBeaten(other, one);
    }

    /** Whether a POINT BEATS another one, each x * 100 + y. */
    public boolean wins(int one, int other) {
        if (told.voters == 0 || one < 0 || one >= POINTS || other < 0 || other >= POINTS) {
            return false;
        }
        int forOne = told.weightFor(one, other);
        int against = told.weightFor(other, one);
        return told.isEnough(forOne, against);
    }

    /** How many HALVING LINES, or a, b, c of one. */
    public int line(int k, int what) {
        lines.refresh();
        if (k == NONE) {
            return lines.size;
        }
        if (k < 0 || k >= lines.size) {
            return VOID;
        }
        switch (what) {
            case 0:
                return lines.a[k];
            case 1:
                return lines.b[k];
            case 2:
                return lines.c[k];
            default:
                return VOID;
        }
    }

    /** How many MIDDLES, or x, y, n of one. */
    public int middle(int k, int what) {
        middles.refresh();
        if (k == NONE) {
            return middles.size;
        }
        if (k < 0 || k >= middles.size) {
            return VOID;
        }
        switch (what) {
            case 0:
                return (int) middles.x[k];
            case 1:
                return (int) middles.y[k];
            case 2:
                return (int) middles.n[k];
            default:
                return VOID;
        }
    }

    /** A line of the PROOF, by its number among HALVING LINES. */
    public int proof(int k) {
        if (k < 0 || k > 2) {
            return NONE;
        }
        middles.refresh();
        return middles.proofLine[k];
    }

    /** THE ROUND POINT: x, y, and the square p by q. */
    public int round(int what) {
        if (told.voters == 0 || what < 0 || what > 3) {
            return NONE;
        }
        around.refresh();
        switch (what) {
            case 0:
                return around.x;
            case 1:
                return around.y;
            case 2:
                return (int) around.p;
            default:
                return (int) around.q;
        }
    }

    /** THE WIN SET of a POINT: how many POINTS, or PIECES. */
    public int winSet(int x, int y, int what) {
        if (told.voters == 0 || !isPoint(x, y) || what < 0 || what > 1) {
            return NONE;
        }
        Field seen = fieldFrom(x, y);
        if (what == 0) {
            return seen.winning;
        }
        seen.cutPieces();
        return seen.pieces;
    }

    /** Of a PIECE of THE WIN SET: its first POINT and how many it has. */
    public int piece(int x, int y, int k, int what) {
        if (told.voters == 0 || !isPoint(x, y) || what < 0 || what > 2 || k < 0) {
            return NONE;
        }
        Field seen = fieldFrom(x, y);
        seen.cutPieces();
        if (k >= seen.pieces) {
            return NONE;
        }
        if (what == 2) {
            return seen.sizeOf(k);
        }
        int first = seen.firstOf(k);
        return what == 0 ? first / WIDE : first % WIDE;
    }

    /** LED from a PLACE to another one: how many votes, or the k-th PLACE of the row. */
    public int led(int from, int to, int k) {
        if (!told.hasPlace(from) || !told.hasPlace(to) || k < NONE) {
            return NONE;
        }
        duels.refresh();
        duels.measureSteps(to);
        int steps = duels.steps[from];
        if (steps == NONE || k == NONE) {
            return steps;
        }
        return k > steps ? NONE : duels.walk(from, k);
    }

    /** TOP, or OPEN, as bits. */
    public int best(int what) {
        if (told.voters == 0 || what < 0 || what > 1) {
            return NONE;
        }
        duels.refresh();
        return what == 0 ? duels.reachingAll() : duels.uncovered();
    }

    /** BETWEEN: a POINT that BEATS the first PLACE and is beaten by the second. */
    public int between(int one, int other) {
        if (!told.hasPlace(one) || !told.hasPlace(other)) {
            return NONE;
        }
        Field seen = fieldFrom(told.placeX[one], told.placeY[one]);
        return seen.firstBeatenBy(told.placeX[other], told.placeY[other]);
    }

    /** REST of TWO PARTIES. */
    public int rest() {
        duels.refresh();
        lots.refresh();
        return lots.restingPlace;
    }

    /** LOTS: the share of a PLACE, or their sum. */
    public int lot(int k) {
        duels.refresh();
        lots.refresh();
        if (!lots.found || k < NONE || k >= lots.places) {
            return NONE;
        }
        return k == NONE ? (int) lots.sum : (int) lots.share[k];
    }

    /** NEED of a PLACE, or the PLACE of LEAST NEED. */
    public int need(int place) {
        if (told.places < 2 || (place != NONE && !told.hasPlace(place))) {
            return NONE;
        }
        duels.refresh();
        return place == NONE ? duels.leastNeedy() : duels.greatestAgainst(place);
    }

    /** MOST AGAINST a POINT. */
    public int most(int x, int y) {
        if (told.voters == 0 || !isPoint(x, y)) {
            return NONE;
        }
        return fieldFrom(x, y).greatest;
    }

    /** PEACE. */
    public int peace() {
        duels.refresh();
        return duels.unbeaten;
    }

    /** TO MAKE PEACE: the VOTER, the PLACE, the square times WEIGHT. */
    public int make(int what) {
        if (what < 0 || what > 2) {
            return NONE;
        }
        duels.refresh();
        standing.findMove();
        switch (what) {
            case 0:
                return standing.movedVoter;
            case 1:
                return standing.movedPlace;
            default:
                return standing.movedCost;
        }
    }

    /** JOINED at a PLACE, as bits. */
    public int join(int place) {
        if (!told.hasPlace(place)) {
            return NONE;
        }
        duels.refresh();
        return standing.fewestJoined(place);
    }

    /** With DOUBT e: UNBEATEN SURELY 2, NOT 0, not told 1. */
    public int doubt(int place, int e) {
        if (!told.hasPlace(place) || e < 0 || e > MOST_DOUBT) {
            return NONE;
        }
        return standing.verdict(place, e);
    }

    /** A MOVE: how many there are. */
    public int move(int voter, int x, int y) {
        if (!told.hasVoter(voter) || !isPoint(x, y) || told.isAt(voter, x, y) || moves.size >= MOST_MOVES) {
            return NONE;
        }
        duels.refresh();
        moves.open(voter, told.x[voter], told.y[voter], duels.pairs, duels.unbeaten);
        told.put(voter, x, y);
        duels.refresh();
        moves.close(x, y, duels.pairs, duels.unbeaten);
        return moves.size;
    }

    /** The last MOVE is taken back: whose it was. */
    public int undo() {
        if (moves.size == 0) {
            return NONE;
        }
        int last = moves.size - 1;
        int whose = moves.get(last, 0);
        told.put(whose, moves.get(last, 1), moves.get(last, 2));
        moves.size = last;
        return whose;
    }

    /** Of a MOVE: whose, from where, to where, and what followed. */
    public int moved(int k, int what) {
        if (k < 0 || k >= moves.size || what < 0 || what >= Moves.FACTS) {
            return NONE;
        }
        return moves.get(k, what);
    }

    /** How many there are of several things. */
    public int count(int what) {
        switch (what) {
            case 0:
                return told.voters;
            case 1:
                return told.places;
            case 2:
                return told.all;
            case 3:
                return moves.size;
            case 4:
                return reader.length;
            case 5:
                duels.refresh();
                return duels.pairs;
            default:
                return NONE;
        }
    }

    private Field fieldFrom(int x, int y) {
        Field seen = field == null ? new Field(told) : field;
        field = seen;
        seen.lookFrom(x, y);
        return seen;
    }

    private static boolean isPoint(int x, int y) {
        return x >= 0 && x < WIDE && y >= 0 && y < WIDE;
    }

    private static long commonPart(long one, long other) {
        long a = Math.abs(one);
        long b = Math.abs(other);
        // Euclid needs fewer than 100 steps for any two longs.
        for (int step = 0; step < 100 && b != 0; step++) {
            long rest = a % b;
            a = b;
            b = rest;
        }
        return a;
    }

    /** VOTERS, PLACES and the bar, as they were told and then changed. */
    private static final class Sheet {
        int voters;
        final int[] x = new int[MOST_VOTERS];
        final int[] y = new int[MOST_VOTERS];
        final int[] weight = new int[MOST_VOTERS];
        final int[] measure = new int[MOST_VOTERS];
        final int[] stretchX = new int[MOST_VOTERS];
        final int[] stretchY = new int[MOST_VOTERS];
        int all;
        int places;
        final int[] placeX = new int[MOST_PLACES];
        final int[] placeY = new int[MOST_PLACES];
        int bar;
        int barA;
        int barB;
        // What is worked out from VOTERS or PLACES is kept until these go on.
        int voterState;
        int placeState;

        void clear() {
            voters = 0;
            all = 0;
            places = 0;
            bar = MORE;
            barA = 1;
            barB = 1;
        }

        boolean hasVoter(int v) {
            return v >= 0 && v < voters;
        }

        boolean hasPlace(int p) {
            return p >= 0 && p < places;
        }

        boolean isAt(int v, int atX, int atY) {
            return x[v] == atX && y[v] == atY;
        }

        void addVoter(int atX, int atY, int itsWeight, int itsMeasure, int a, int b) {
            if (voters >= MOST_VOTERS) {
                return;
            }
            x[voters] = atX;
            y[voters] = atY;
            weight[voters] = itsWeight;
            measure[voters] = itsMeasure;
            stretchX[voters] = a;
            stretchY[voters] = b;
            voters++;
            all += itsWeight;
            voterState++;
        }

        void addPlace(int atX, int atY) {
            if (places >= MOST_PLACES) {
                return;
            }
            placeX[places] = atX;
            placeY[places] = atY;
            places++;
            placeState++;
        }

        void put(int v, int atX, int atY) {
            if (!hasVoter(v)) {
                return;
            }
            x[v] = atX;
            y[v] = atY;
            voterState++;
        }

        void takeFrom(Sheet other) {
            clear();
            for (int v = 0; v < other.voters && v < MOST_VOTERS; v++) {
                addVoter(other.x[v], other.y[v], other.weight[v], other.measure[v],
                        other.stretchX[v], other.stretchY[v]);
            }
            for (int p = 0; p < other.places && p < MOST_PLACES; p++) {
                addPlace(other.placeX[p], other.placeY[p]);
            }
            bar = other.bar;
            barA = other.barA;
            barB = other.barB;
        }

        /** THE WAY over a distance of dx and dy, both without sign. */
        int wayOver(int v, int dx, int dy) {
            int across = dx * stretchX[v];
            int along = dy * stretchY[v];
            switch (measure[v]) {
                case CROW:
                    return across * across + along * along;
                case STREET:
                    return across + along;
                case SIDE:
                    return Math.max(across, along);
                default:
                    return across;
            }
        }

        int wayTo(int v, int toX, int toY) {
            return wayOver(v, Math.abs(toX - x[v]), Math.abs(toY - y[v]));
        }

        /** FOR of one POINT against another one, each x * 100 + y. */
        int weightFor(int one, int other) {
            int sum = 0;
            for (int v = 0; v < voters; v++) {
                int toOne = wayTo(v, one / WIDE, one % WIDE);
                int toOther = wayTo(v, other / WIDE, other % WIDE);
                if (toOne < toOther) {
                    sum += weight[v];
                }
            }
            return sum;
        }

        /** Whether one that has these FOR and AGAINST BEATS the other. */
        boolean isEnough(int forOne, int against) {
            switch (bar) {
                case OVER:
                    return forOne * barB > barA * all;
                case LEAST:
                    return forOne * barB >= barA * all && forOne > against;
                default:
                    return forOne > against;
            }
        }

        boolean isMoreThanHalf(int weights) {
            return 2 * weights > all;
        }
    }

    /** The text, and how it is read as a SHEET. */
    private static final class Reader {
        private static final int AT_END = 0;
        private static final int NO_TOKEN = 1;
        private static final int WORD = 2;
        private static final int NUMBER = 3;
        private static final int SLASH = 4;
        private static final int SEMICOLON = 5;
        // No number of a SHEET comes near this, so a longer one need not be told apart.
        private static final int TOO_GREAT = 1000;

        final byte[] text = new byte[MOST_BYTES];
        int length;
        final Sheet draft = new Sheet();
        private int kind;
        private int start;
        private int behind;
        private int value;
        private int measure;
        private int stretchX;
        private int stretchY;
        private boolean barTold;

        void append(int four) {
            for (int shift = 24; shift >= 0; shift -= 8) {
                if (length < MOST_BYTES) {
                    text[length] = (byte) (four >>> shift);
                    length++;
                }
            }
        }

        /** Reads the text into the draft; every FAULT is where the reading stopped. */
        int findFault() {
            draft.clear();
            measure = CROW;
            stretchX = 1;
            stretchY = 1;
            barTold = false;
            behind = 0;
            next();
            for (int told = 0; told < MOST_BYTES && kind != AT_END; told++) {
                if (!readOne()) {
                    return start;
                }
            }
            return kind == AT_END && draft.voters > 0 ? NONE : start;
        }

        private boolean readOne() {
            if (isWord("near")) {
                return readNear();
            }
            if (isWord("stretch")) {
                return readStretch();
            }
            if (isWord("voter")) {
                return readVoter();
            }
            if (isWord("place")) {
                return readPlace();
            }
            return isWord("win") && readBar();
        }

        private boolean readNear() {
            next();
            if (isWord("crow")) {
                measure = CROW;
            } else if (isWord("street")) {
                measure = STREET;
            } else if (isWord("side")) {
                measure = SIDE;
            } else if (isWord("line")) {
                measure = LINE;
            } else {
                return false;
            }
            next();
            return passSemicolon();
        }

        private boolean readStretch() {
            next();
            if (!isNumber(1, 9)) {
                return false;
            }
            stretchX = value;
            next();
            if (!isNumber(1, 9)) {
                return false;
            }
            stretchY = value;
            next();
            return passSemicolon();
        }

        private boolean readVoter() {
            if (draft.voters >= MOST_VOTERS) {
                return false;
            }
            next();
            if (!isNumber(0, WIDE - 1)) {
                return false;
            }
            int atX = value;
            next();
            if (!isNumber(0, WIDE - 1)) {
                return false;
            }
            int atY = value;
            int itsWeight = 1;
            next();
            if (isWord("by")) {
                next();
                if (!isNumber(1, 9)) {
                    return false;
                }
                itsWeight = value;
                next();
            }
            draft.addVoter(atX, atY, itsWeight, measure, stretchX, stretchY);
            return passSemicolon();
        }

        private boolean readPlace() {
            if (draft.places >= MOST_PLACES) {
                return false;
            }
            next();
            if (!isNumber(0, WIDE - 1)) {
                return false;
            }
            int atX = value;
            next();
            if (!isNumber(0, WIDE - 1)) {
                return false;
            }
            draft.addPlace(atX, value);
            next();
            return passSemicolon();
        }

        private boolean readBar() {
            if (barTold) {
                return false;
            }
            barTold = true;
            next();
            if (isWord("more")) {
                next();
                return passSemicolon();
            }
            if (isWord("over")) {
                draft.bar = OVER;
            } else if (isWord("least")) {
                draft.bar = LEAST;
            } else {
                return false;
            }
            next();
            return readShare() && passSemicolon();
        }

        private boolean readShare() {
            if (!isNumber(1, 99)) {
                return false;
            }
            draft.barA = value;
            next();
            if (kind != SLASH) {
                return false;
            }
            next();
            if (!isNumber(1, 99) || draft.barA > value || 2 * draft.barA < value) {
                return false;
            }
            draft.barB = value;
            next();
            return true;
        }

        private boolean passSemicolon() {
            if (kind != SEMICOLON) {
                return false;
            }
            next();
            return true;
        }

        private boolean isNumber(int least, int greatest) {
            return kind == NUMBER && value >= least && value <= greatest;
        }

        private boolean isWord(String word) {
            if (kind != WORD || behind - start != word.length()) {
                return false;
            }
            for (int i = 0; i < word.length(); i++) {
                if (text[start + i] != word.charAt(i)) {
                    return false;
                }
            }
            return true;
        }

        /** Goes on to the TOKEN behind this one. */
        private void next() {
            start = behind;
            while (start < length && (text[start] == ' ' || text[start] == '\n')) {
                start++;
            }
            behind = start;
            if (start >= length) {
                kind = AT_END;
            } else if (isLetter(start)) {
                kind = WORD;
                while (behind < length && isLetter(behind)) {
                    behind++;
                }
            } else if (isDigit(start)) {
                kind = NUMBER;
                value = 0;
                while (behind < length && isDigit(behind)) {
                    value = Math.min(TOO_GREAT, value * 10 + text[behind] - '0');
                    behind++;
                }
            } else {
                kind = signAt(start);
                behind++;
            }
        }

        private int signAt(int at) {
            if (text[at] == '/') {
                return SLASH;
            }
            return text[at] == ';' ? SEMICOLON : NO_TOKEN;
        }

        private boolean isLetter(int at) {
            return text[at] >= 'a' && text[at] <= 'z';
        }

        private boolean isDigit(int at) {
            return text[at] >= '0' && text[at] <= '9';
        }
    }

    /** Each PLACE against each other one, and where that leads. */
    private static final class Duels {
        final Sheet sheet;
        private final int[] forOne = new int[MOST_PLACES * MOST_PLACES];
        private final int[] ways = new int[MOST_PLACES];
        // By PLACE the bits of those that BEAT it.
        final int[] beaters = new int[MOST_PLACES];
        // By PLACE how many votes lead from it to the one last asked.
        final int[] steps = new int[MOST_PLACES];
        int pairs;
        int unbeaten = NONE;
        private int voterState = NONE;
        private int placeState = NONE;

        Duels(Sheet sheet) {
            this.sheet = sheet;
        }

        void refresh() {
            if (voterState == sheet.voterState && placeState == sheet.placeState) {
                return;
            }
            voterState = sheet.voterState;
            placeState = sheet.placeState;
            Arrays.fill(forOne, 0);
            for (int v = 0; v < sheet.voters; v++) {
                addVotesOf(v);
            }
            pairs = 0;
            unbeaten = NONE;
            for (int p = 0; p < sheet.places; p++) {
                findBeaters(p);
                pairs += Integer.bitCount(beaters[p]);
                if (unbeaten == NONE && beaters[p] == 0) {
                    unbeaten = p;
                }
            }
        }

        private void addVotesOf(int v) {
            for (int p = 0; p < sheet.places; p++) {
                ways[p] = sheet.wayTo(v, sheet.placeX[p], sheet.placeY[p]);
            }
            for (int p = 0; p < sheet.places; p++) {
                for (int q = 0; q < sheet.places; q++) {
                    if (ways[p] < ways[q]) {
                        forOne[p * MOST_PLACES + q] += sheet.weight[v];
                    }
                }
            }
        }

        private void findBeaters(int p) {
            beaters[p] = 0;
            for (int q = 0; q < sheet.places; q++) {
                if (q != p && sheet.isEnough(forOf(q, p), forOf(p, q))) {
                    beaters[p] |= 1 << q;
                }
            }
        }

        int forOf(int one, int other) {
            return forOne[one * MOST_PLACES + other];
        }

        boolean isBeaten(int one, int by) {
            return (beaters[one] >> by & 1) == 1;
        }

        int greatestAgainst(int p) {
            int greatest = 0;
            for (int q = 0; q < sheet.places; q++) {
                if (q != p) {
                    greatest = Math.max(greatest, forOf(q, p));
                }
            }
            return greatest;
        }

        int leastNeedy() {
            int least = 0;
            for (int p = 1; p < sheet.places; p++) {
                if (greatestAgainst(p) < greatestAgainst(least)) {
                    least = p;
                }
            }
            return least;
        }

        /** Fills steps to a PLACE, and tells as bits from where one can be LED there. */
        int measureSteps(int to) {
            Arrays.fill(steps, NONE);
            steps[to] = 0;
            int reached = 1 << to;
            for (int far = 1; far < sheet.places; far++) {
                int before = reached;
                for (int p = 0; p < sheet.places; p++) {
                    if (steps[p] == NONE && (beaters[p] & before) != 0) {
                        steps[p] = far;
                        reached |= 1 << p;
                    }
                }
            }
            return reached;
        }

        /** The PLACE after so many votes on the way that the steps tell. */
        int walk(int from, int votesCast) {
            int at = from;
            for (int cast = 0; cast < votesCast; cast++) {
                at = nextFrom(at);
            }
            return at;
        }

        private int nextFrom(int at) {
            for (int p = 0; p < sheet.places; p++) {
                if (isBeaten(at, p) && steps[p] == steps[at] - 1) {
                    return p;
                }
            }
            return at;
        }

        int reachingAll() {
            int everyone = (1 << sheet.places) - 1;
            int bits = 0;
            for (int p = 0; p < sheet.places; p++) {
                if (measureSteps(p) == everyone) {
                    bits |= 1 << p;
                }
            }
            return bits;
        }

        int uncovered() {
            int bits = 0;
            for (int p = 0; p < sheet.places; p++) {
                if (!isCovered(p)) {
                    bits |= 1 << p;
                }
            }
            return bits;
        }

        private boolean isCovered(int p) {
            for (int q = 0; q < sheet.places; q++) {
                if (isBeaten(p, q) && (beaters[q] & ~beaters[p]) == 0) {
                    return true;
                }
            }
            return false;
        }
    }

    /** HALVING LINES in TURNING ORDER. */
    private static final class Lines {
        private static final int MOST = MOST_VOTERS * (MOST_VOTERS - 1) / 2;

        final Sheet sheet;
        final int[] a = new int[MOST];
        final int[] b = new int[MOST];
        final int[] c = new int[MOST];
        int size;
        private int voterState = NONE;

        Lines(Sheet sheet) {
            this.sheet = sheet;
        }

        void refresh() {
            if (voterState == sheet.voterState) {
                return;
            }
            voterState = sheet.voterState;
            size = 0;
            for (int v = 0; v < sheet.voters; v++) {
                for (int u = 0; u < v; u++) {
                    addThrough(v, u);
                }
            }
        }

        private void addThrough(int v, int u) {
            int turnA = sheet.y[u] - sheet.y[v];
            int turnB = sheet.x[v] - sheet.x[u];
            int part = (int) commonPart(turnA, turnB);
            if (turnA < 0 || (turnA == 0 && turnB < 0)) {
                part = -part;
            }
            // Nought alone if both are at one POINT, through which no one line goes.
            if (part == 0) {
                return;
            }
            int lineA = turnA / part;
            int lineB = turnB / part;
            int lineC = lineA * sheet.x[v] + lineB * sheet.y[v];
            if (isHalving(lineA, lineB, lineC)) {
                insert(lineA, lineB, lineC);
            }
        }

        private boolean isHalving(int lineA, int lineB, int lineC) {
            int below = 0;
            int above = 0;
            for (int v = 0; v < sheet.voters; v++) {
                int off = lineA * sheet.x[v] + lineB * sheet.y[v] - lineC;
                if (off < 0) {
                    below += sheet.weight[v];
                } else if (off > 0) {
                    above += sheet.weight[v];
                }
            }
            return !sheet.isMoreThanHalf(below) && !sheet.isMoreThanHalf(above);
        }

        private void insert(int lineA, int lineB, int lineC) {
            int at = 0;
            while (at < size && order(at, lineA, lineB, lineC) < 0) {
                at++;
            }
            if (size >= MOST || (at < size && order(at, lineA, lineB, lineC) == 0)) {
                return;
            }
            for (int k = size; k > at; k--) {
                a[k] = a[k - 1];
                b[k] = b[k - 1];
                c[k] = c[k - 1];
            }
            a[at] = lineA;
            b[at] = lineB;
            c[at] = lineC;
            size++;
        }

        private int order(int k, int lineA, int lineB, int lineC) {
            if (a[k] == lineA && b[k] == lineB) {
                return Integer.compare(c[k], lineC);
            }
            if (a[k] == 0 || lineA == 0) {
                return a[k] == 0 ? 1 : -1;
            }
            return Integer.compare(b[k] * lineA, lineB * a[k]);
        }

        /** Nought if two of these lines are of one direction; else what their crossing is told by. */
        long turnBetween(int k, int l) {
            return (long) a[k] * b[l] - (long) a[l] * b[k];
        }

        long crossingX(int k, int l) {
            return (long) c[k] * b[l] - (long) c[l] * b[k];
        }

        long crossingY(int k, int l) {
            return (long) a[k] * c[l] - (long) a[l] * c[k];
        }
    }

    /** MIDDLES, or the PROOF that there is none. */
    private static final class Middles {
        // Unless all VOTERS are in a row, and only their own POINTS are asked, there is at most one.
        private static final int MOST = MOST_VOTERS;

        private final Sheet sheet;
        private final Lines lines;
        final long[] x = new long[MOST];
        final long[] y = new long[MOST];
        final long[] n = new long[MOST];
        int size;
        final int[] proofLine = {NONE, NONE, NONE};
        private int voterState = NONE;

        Middles(Sheet sheet, Lines lines) {
            this.sheet = sheet;
            this.lines = lines;
        }

        void refresh() {
            if (voterState == sheet.voterState) {
                return;
            }
            voterState = sheet.voterState;
            lines.refresh();
            size = 0;
            for (int v = 0; v < sheet.voters; v++) {
                ask(sheet.x[v], sheet.y[v], 1);
            }
            for (int k = 0; k < lines.size; k++) {
                for (int l = k + 1; l < lines.size; l++) {
                    askCrossing(k, l);
                }
            }
            Arrays.fill(proofLine, NONE);
            if (size == 0) {
                findProof();
            }
        }

        private void askCrossing(int k, int l) {
            long by = lines.turnBetween(k, l);
            if (by != 0) {
                ask(lines.crossingX(k, l), lines.crossingY(k, l), by);
            }
        }

        private void ask(long atX, long atY, long by) {
            long part = commonPart(commonPart(atX, atY), by);
            if (by < 0) {
                part = -part;
            }
            if (part == 0) {
                return;
            }
            long placeX = atX / part;
            long placeY = atY / part;
            long placeN = by / part;
            if (isMiddle(placeX, placeY, placeN)) {
                insert(placeX, placeY, placeN);
            }
        }

        private boolean isMiddle(long atX, long atY, long by) {
            for (int v = 0; v < sheet.voters; v++) {
                if (isCrowdedFrom(v, atX, atY, by)) {
                    return false;
                }
            }
            return true;
        }

        /**
         * Whether a VOTER and all from him to the left, up to half a turn, are too many: a line through the place
         * has just these on one side. Where any line has too many on a side, these are so from the first of them on.
         */
        private boolean isCrowdedFrom(int v, long atX, long atY, long by) {
            long toX = by * sheet.x[v] - atX;
            long toY = by * sheet.y[v] - atY;
            int aside = 0;
            for (int u = 0; u < sheet.voters; u++) {
                long otherX = by * sheet.x[u] - atX;
                long otherY = by * sheet.y[u] - atY;
                long turn = toX * otherY - toY * otherX;
                long along = toX * otherX + toY * otherY;
                if (turn > 0 || (turn == 0 && along > 0)) {
                    aside += sheet.weight[u];
                }
            }
            return sheet.isMoreThanHalf(aside);
        }

        private void insert(long atX, long atY, long by) {
            int at = 0;
            while (at < size && order(at, atX, atY, by) < 0) {
                at++;
            }
            if (size >= MOST || (at < size && order(at, atX, atY, by) == 0)) {
                return;
            }
            for (int k = size; k > at; k--) {
                x[k] = x[k - 1];
                y[k] = y[k - 1];
                n[k] = n[k - 1];
            }
            x[at] = atX;
            y[at] = atY;
            n[at] = by;
            size++;
        }

        private int order(int k, long atX, long atY, long by) {
            int byX = Long.compare(x[k] * by, atX * n[k]);
            return byX != 0 ? byX : Long.compare(y[k] * by, atY * n[k]);
        }

        private void findProof() {
            for (int k = 0; k < lines.size; k++) {
                for (int l = k + 1; l < lines.size; l++) {
                    int m = firstApart(k, l);
                    if (m != NONE) {
                        proofLine[0] = k;
                        proofLine[1] = l;
                        proofLine[2] = m;
                        return;
                    }
                }
            }
        }

        /** The first line behind two that doesn't go through a place that they have in common. */
        private int firstApart(int k, int l) {
            long by = lines.turnBetween(k, l);
            long atX = lines.crossingX(k, l);
            long atY = lines.crossingY(k, l);
            for (int m = l + 1; m < lines.size; m++) {
                if (by == 0 || lines.a[m] * atX + lines.b[m] * atY != lines.c[m] * by) {
                    return m;
                }
            }
            return NONE;
        }
    }

    /** THE ROUND POINT. */
    private static final class Round {
        private final Lines lines;
        int x;
        int y;
        long p;
        long q = 1;
        // The line that last ruled a POINT out mostly rules out the next one, too.
        private int likely;
        private int voterState = NONE;

        Round(Lines lines) {
            this.lines = lines;
        }

        void refresh() {
            if (voterState == lines.sheet.voterState) {
                return;
            }
            voterState = lines.sheet.voterState;
            lines.refresh();
            likely = 0;
            settleAt(0, 0);
            for (int atX = 0; atX < WIDE; atX++) {
                for (int atY = 0; atY < WIDE; atY++) {
                    if (isNearer(atX, atY)) {
                        settleAt(atX, atY);
                    }
                }
            }
            long part = commonPart(p, q);
            if (part > 1) {
                p /= part;
                q /= part;
            }
        }

        private void settleAt(int atX, int atY) {
            x = atX;
            y = atY;
            p = 0;
            q = 1;
            for (int k = 0; k < lines.size; k++) {
                if (!isBelow(k, atX, atY)) {
                    p = squareTop(k, atX, atY);
                    q = squareBottom(k);
                }
            }
        }

        /** Whether all lines are nearer to this POINT than the farthest one is to that settled at. */
        private boolean isNearer(int atX, int atY) {
            if (likely >= lines.size || !isBelow(likely, atX, atY)) {
                return false;
            }
            for (int k = 0; k < lines.size; k++) {
                if (!isBelow(k, atX, atY)) {
                    likely = k;
                    return false;
                }
            }
            return true;
        }

        private boolean isBelow(int k, int atX, int atY) {
            return squareTop(k, atX, atY) * q < p * squareBottom(k);
        }

        private long squareTop(int k, int atX, int atY) {
            long off = (long) lines.a[k] * atX + (long) lines.b[k] * atY - lines.c[k];
            return off * off;
        }

        private long squareBottom(int k) {
            return (long) lines.a[k] * lines.a[k] + (long) lines.b[k] * lines.b[k];
        }
    }

    /** All POINTS against one of them: its WIN SET and what hangs together there. */
    private static final class Field {
        // No more POINTS than every second one can lie apart from each other.
        private static final int MOST_PIECES = POINTS / 2;

        private final Sheet sheet;
        // By POINT the WEIGHTS of those whose way to it is shorter, and of those whose way isn't longer,
        // than to the POINT last weighed, which needn't be the base.
        private final int[] shorter = new int[POINTS];
        private final int[] notLonger = new int[POINTS];
        private final boolean[] isWinning = new boolean[POINTS];
        // PIECES one behind the other, and where each of them starts.
        private final int[] queue = new int[POINTS];
        private final int[] starts = new int[MOST_PIECES + 1];
        int winning;
        int greatest;
        int pieces = NONE;
        private int base = NONE;
        private int voterState = NONE;

        Field(Sheet sheet) {
            this.sheet = sheet;
        }

        void lookFrom(int atX, int atY) {
            int asked = atX * WIDE + atY;
            if (base == asked && voterState == sheet.voterState) {
                return;
            }
            base = asked;
            voterState = sheet.voterState;
            pieces = NONE;
            weigh(atX, atY);
            winning = 0;
            greatest = 0;
            for (int point = 0; point < POINTS; point++) {
                isWinning[point] = sheet.isEnough(shorter[point], sheet.all - notLonger[point]);
                greatest = Math.max(greatest, shorter[point]);
                if (isWinning[point]) {
                    winning++;
                }
            }
        }

        /** Fills both rows: what each VOTER adds is an interval in each column, told by its ends first. */
        private void weigh(int atX, int atY) {
            Arrays.fill(shorter, 0);
            Arrays.fill(notLonger, 0);
            for (int v = 0; v < sheet.voters; v++) {
                int limit = sheet.wayTo(v, atX, atY);
                markWithin(v, limit - 1, shorter);
                markWithin(v, limit, notLonger);
            }
            sumColumns(shorter);
            sumColumns(notLonger);
        }

        private void markWithin(int v, int limit, int[] row) {
            int reach = WIDE - 1;
            for (int dx = 0; dx < WIDE; dx++) {
                // The farther the column, the shorter the interval: reach only shrinks.
                while (reach >= 0 && sheet.wayOver(v, dx, reach) > limit) {
                    reach--;
                }
                if (reach < 0) {
                    return;
                }
                markColumn(v, sheet.x[v] + dx, reach, row);
                if (dx > 0) {
                    markColumn(v, sheet.x[v] - dx, reach, row);
                }
            }
        }

        private void markColumn(int v, int column, int reach, int[] row) {
            if (column < 0 || column >= WIDE) {
                return;
            }
            int first = Math.max(0, sheet.y[v] - reach);
            int behind = sheet.y[v] + reach + 1;
            row[column * WIDE + first] += sheet.weight[v];
            if (behind < WIDE) {
                row[column * WIDE + behind] -= sheet.weight[v];
            }
        }

        private static void sumColumns(int[] row) {
            for (int point = 0; point < POINTS; point++) {
                if (point % WIDE != 0) {
                    row[point] += row[point - 1];
                }
            }
        }

        /** Takes the WIN SET apart; the queue then holds its PIECES one behind the other. */
        void cutPieces() {
            if (pieces != NONE) {
                return;
            }
            pieces = 0;
            int queued = 0;
            for (int point = 0; point < POINTS; point++) {
                if (isWinning[point] && pieces < MOST_PIECES) {
                    starts[pieces] = queued;
                    queued = takePiece(point, queued);
                    pieces++;
                }
            }
            starts[pieces] = queued;
        }

        private int takePiece(int first, int queued) {
            int behind = takePoint(first, queued);
            for (int at = queued; at < behind && at < POINTS; at++) {
                int point = queue[at];
                if (point % WIDE > 0) {
                    behind = takePoint(point - 1, behind);
                }
                if (point % WIDE < WIDE - 1) {
                    behind = takePoint(point + 1, behind);
                }
                if (point >= WIDE) {
                    behind = takePoint(point - WIDE, behind);
                }
                if (point < POINTS - WIDE) {
                    behind = takePoint(point + WIDE, behind);
                }
            }
            return behind;
        }

        /** A POINT goes from the WIN SET into the queue, so that it is taken once. */
        private int takePoint(int point, int behind) {
            if (!isWinning[point] || behind >= POINTS) {
                return behind;
            }
            isWinning[point] = false;
            queue[behind] = point;
            return behind + 1;
        }

        int firstOf(int k) {
            return queue[starts[k]];
        }

        int sizeOf(int k) {
            return starts[k + 1] - starts[k];
        }

        /** The first POINT of the WIN SET that another POINT BEATS. */
        int firstBeatenBy(int otherX, int otherY) {
            if (pieces != NONE) {
                refillWinning();
            }
            weigh(otherX, otherY);
            for (int point = 0; point < POINTS; point++) {
                if (isWinning[point] && sheet.isEnough(sheet.all - notLonger[point], shorter[point])) {
                    return point;
                }
            }
            return NONE;
        }

        /** Puts back what was taken from the WIN SET when it was cut into PIECES. */
        private void refillWinning() {
            for (int at = 0; at < winning && at < POINTS; at++) {
                isWinning[queue[at]] = true;
            }
        }
    }

    /** TWO PARTIES: their REST and their LOTS. */
    private static final class Lots {
        private final Duels duels;
        private final int[] gain = new int[MOST_PARTY_PLACES * MOST_PARTY_PLACES];
        // By bits of PLACES the Pfaffian of their gains.
        private final long[] pfaffian = new long[1 << MOST_PARTY_PLACES];
        final long[] share = new long[MOST_PARTY_PLACES];
        long sum;
        int places;
        boolean found;
        int restingPlace = NONE;
        private int voterState = NONE;
        private int placeState = NONE;

        Lots(Duels duels) {
            this.duels = duels;
        }

        void refresh() {
            Sheet sheet = duels.sheet;
            if (voterState == sheet.voterState && placeState == sheet.placeState) {
                return;
            }
            voterState = sheet.voterState;
            placeState = sheet.placeState;
            places = Math.min(MOST_PARTY_PLACES, sheet.places);
            for (int i = 0; i < places; i++) {
                for (int j = 0; j < places; j++) {
                    gain[i * MOST_PARTY_PLACES + j] = duels.forOf(i, j) - duels.forOf(j, i);
                }
            }
            findRest();
            fillPfaffians();
            findLots();
        }

        private int gainOf(int i, int j) {
            return gain[i * MOST_PARTY_PLACES + j];
        }

        private void findRest() {
            restingPlace = NONE;
            for (int j = places - 1; j >= 0; j--) {
                boolean rests = true;
                for (int i = 0; i < places; i++) {
                    rests = rests && gainOf(i, j) <= 0;
                }
                if (rests) {
                    restingPlace = j;
                }
            }
        }

        private void fillPfaffians() {
            pfaffian[0] = 1;
            for (int bits = 1; bits < 1 << places; bits++) {
                pfaffian[bits] = Integer.bitCount(bits) % 2 == 0 ? expand(bits) : 0;
            }
        }

        private long expand(int bits) {
            int first = Integer.numberOfTrailingZeros(bits);
            int others = bits & bits - 1;
            long whole = 0;
            int sign = 1;
            for (int j = first + 1; j < places; j++) {
                if ((others >> j & 1) == 1) {
                    whole += sign * gainOf(first, j) * pfaffian[others ^ 1 << j];
                    sign = -sign;
                }
            }
            return whole;
        }

        /** Of an even number of PLACES just one is never possible, as gains are the same with other sign. */
        private void findLots() {
            found = false;
            for (int size = 1; size <= places; size += 2) {
                for (int bits = 1; bits < 1 << places; bits++) {
                    if (Integer.bitCount(bits) == size && shareAmong(bits) && nobodyGains()) {
                        found = true;
                        reduce();
                        return;
                    }
                }
            }
        }

        /**
         * The one solution of gains 0 is, by PLACE, the Pfaffian of all others with signs in turn; where all
         * of these are 0, more than one is possible. False unless they are all above or all below 0.
         */
        private boolean shareAmong(int bits) {
            Arrays.fill(share, 0);
            boolean below = false;
            int sign = 1;
            int seen = 0;
            for (int i = 0; i < places; i++) {
                if ((bits >> i & 1) == 0) {
                    continue;
                }
                long signed = sign * pfaffian[bits ^ 1 << i];
                if (signed == 0 || (seen > 0 && below != signed < 0)) {
                    return false;
                }
                below = signed < 0;
                share[i] = Math.abs(signed);
                sign = -sign;
                seen++;
            }
            return seen > 0;
        }

        private boolean nobodyGains() {
            for (int i = 0; i < places; i++) {
                long gains = 0;
                for (int j = 0; j < places; j++) {
                    gains += gainOf(i, j) * share[j];
                }
                if (gains > 0) {
                    return false;
                }
            }
            return true;
        }

        private void reduce() {
            long part = 0;
            for (int i = 0; i < places; i++) {
                part = commonPart(part, share[i]);
            }
            sum = 0;
            for (int i = 0; i < places; i++) {
                if (part > 1) {
                    share[i] /= part;
                }
                sum += share[i];
            }
        }
    }

    /** What makes a PLACE stand unbeaten: one VOTER moved, some JOINED, or all of them in DOUBT. */
    private static final class Standing {
        private static final int FOR_FIRST = 1;
        private static final int FOR_OTHER = 2;
        private static final int FOR_NONE = 4;

        private final Duels duels;
        private final Sheet sheet;
        private final int[] waysBefore = new int[MOST_PLACES];
        private final int[] waysBehind = new int[MOST_PLACES];
        // By VOTER who may join and by other PLACE: what that loses, and what the PLACE joined wins.
        private final int[] lost = new int[MOST_JOINING * MOST_PLACES];
        private final int[] won = new int[MOST_JOINING * MOST_PLACES];
        int movedVoter = NONE;
        int movedPlace = NONE;
        int movedCost = NONE;
        private int voterState = NONE;
        private int placeState = NONE;

        Standing(Duels duels) {
            this.duels = duels;
            this.sheet = duels.sheet;
        }

        /** TO MAKE PEACE. */
        void findMove() {
            if (voterState == sheet.voterState && placeState == sheet.placeState) {
                return;
            }
            voterState = sheet.voterState;
            placeState = sheet.placeState;
            movedVoter = NONE;
            movedPlace = NONE;
            movedCost = NONE;
            for (int v = 0; v < sheet.voters; v++) {
                fillWays(v, sheet.x[v], sheet.y[v], waysBefore);
                for (int p = 0; p < sheet.places; p++) {
                    tryMove(v, p);
                }
            }
        }

        private void tryMove(int v, int p) {
            int dx = sheet.placeX[p] - sheet.x[v];
            int dy = sheet.placeY[p] - sheet.y[v];
            int cost = (dx * dx + dy * dy) * sheet.weight[v];
            if (movedCost != NONE && cost >= movedCost) {
                return;
            }
            fillWays(v, sheet.placeX[p], sheet.placeY[p], waysBehind);
            if (isPeaceBehind(sheet.weight[v])) {
                movedVoter = v;
                movedPlace = p;
                movedCost = cost;
            }
        }

        private void fillWays(int v, int fromX, int fromY, int[] ways) {
            for (int p = 0; p < sheet.places; p++) {
                ways[p] = wayFrom(v, fromX, fromY, p);
            }
        }

        private int wayFrom(int v, int fromX, int fromY, int p) {
            return sheet.wayOver(v, Math.abs(sheet.placeX[p] - fromX), Math.abs(sheet.placeY[p] - fromY));
        }

        private boolean isPeaceBehind(int weight) {
            for (int p = 0; p < sheet.places; p++) {
                boolean stands = true;
                for (int q = 0; q < sheet.places && stands; q++) {
                    stands = q == p || !sheet.isEnough(forBehind(q, p, weight), forBehind(p, q, weight));
                }
                if (stands) {
                    return true;
                }
            }
            return false;
        }

        /** FOR once the VOTER whose ways are filled in has moved. */
        private int forBehind(int one, int other, int weight) {
            int votes = duels.forOf(one, other);
            if (waysBefore[one] < waysBefore[other]) {
                votes -= weight;
            }
            if (waysBehind[one] < waysBehind[other]) {
                votes += weight;
            }
            return votes;
        }

        int fewestJoined(int place) {
            int may = Math.min(MOST_JOINING, sheet.voters);
            for (int v = 0; v < may; v++) {
                fillJoining(v, place);
            }
            for (int size = 0; size <= may; size++) {
                for (int bits = 0; bits < 1 << may; bits++) {
                    if (Integer.bitCount(bits) == size && standsJoined(place, bits, may)) {
                        return bits;
                    }
                }
            }
            return NONE;
        }

        private void fillJoining(int v, int place) {
            fillWays(v, sheet.x[v], sheet.y[v], waysBefore);
            fillWays(v, sheet.placeX[place], sheet.placeY[place], waysBehind);
            for (int q = 0; q < sheet.places; q++) {
                int hadWon = waysBefore[place] < waysBefore[q] ? sheet.weight[v] : 0;
                int hasWon = waysBehind[place] < waysBehind[q] ? sheet.weight[v] : 0;
                // Who is at the PLACE is RATHER for no other one.
                lost[v * MOST_PLACES + q] = waysBefore[q] < waysBefore[place] ? sheet.weight[v] : 0;
                won[v * MOST_PLACES + q] = hasWon - hadWon;
            }
        }

        private boolean standsJoined(int place, int bits, int may) {
            for (int q = 0; q < sheet.places; q++) {
                int forOther = duels.forOf(q, place);
                int against = duels.forOf(place, q);
                for (int v = 0; v < may; v++) {
                    if ((bits >> v & 1) == 1) {
                        forOther -= lost[v * MOST_PLACES + q];
                        against += won[v * MOST_PLACES + q];
                    }
                }
                if (q != place && sheet.isEnough(forOther, against)) {
                    return false;
                }
            }
            return true;
        }

        int verdict(int place, int e) {
            int answer = 2;
            for (int q = 0; q < sheet.places; q++) {
                if (q == place) {
                    continue;
                }
                int surelyPlace = 0;
                int surelyOther = 0;
                int alike = 0;
                for (int v = 0; v < sheet.voters; v++) {
                    int stances = stancesOf(v, place, q, e);
                    surelyPlace += stances == FOR_FIRST ? sheet.weight[v] : 0;
                    surelyOther += stances == FOR_OTHER ? sheet.weight[v] : 0;
                    alike += stances == FOR_NONE ? sheet.weight[v] : 0;
                }
                int notAlike = sheet.all - alike;
                if (sheet.isEnough(surelyOther, notAlike - surelyOther)) {
                    return 0;
                }
                if (sheet.isEnough(notAlike - surelyPlace, surelyPlace)) {
                    answer = 1;
                }
            }
            return answer;
        }

        /** As bits, all that a VOTER in DOUBT may be for; cut short once it is more than one. */
        private int stancesOf(int v, int place, int other, int e) {
            int lastX = Math.min(WIDE - 1, sheet.x[v] + e);
            int lastY = Math.min(WIDE - 1, sheet.y[v] + e);
            int stances = 0;
            for (int fromX = Math.max(0, sheet.x[v] - e); fromX <= lastX; fromX++) {
                for (int fromY = Math.max(0, sheet.y[v] - e); fromY <= lastY; fromY++) {
                    int toPlace = wayFrom(v, fromX, fromY, place);
                    int toOther = wayFrom(v, fromX, fromY, other);
                    stances |= toPlace < toOther ? FOR_FIRST : toOther < toPlace ? FOR_OTHER : FOR_NONE;
                    if ((stances & stances - 1) != 0) {
                        return stances;
                    }
                }
            }
            return stances;
        }
    }

    /** MOVES and WHAT FOLLOWED. */
    private static final class Moves {
        static final int FACTS = 9;

        private final int[] facts = new int[MOST_MOVES * FACTS];
        int size;

        void open(int whose, int fromX, int fromY, int pairsAhead, int peaceAhead) {
            if (size >= MOST_MOVES) {
                return;
            }
            set(0, whose);
            set(1, fromX);
            set(2, fromY);
            set(5, pairsAhead);
            set(7, peaceAhead);
        }

        void close(int toX, int toY, int pairsBehind, int peaceBehind) {
            if (size >= MOST_MOVES) {
                return;
            }
            set(3, toX);
            set(4, toY);
            set(6, pairsBehind);
            set(8, peaceBehind);
            size++;
        }

        private void set(int what, int fact) {
            facts[size * FACTS + what] = fact;
        }

        int get(int k, int what) {
            return facts[k * FACTS + what];
        }
    }
}
