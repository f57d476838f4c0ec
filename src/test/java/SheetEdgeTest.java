/**
 * The edges of the text and of the SHEET (promises 1 to 5, and part 1 of the terms): each sentence that names one has
 * a method of its own, with the last input that is still taken and the first that is not.
 */
public final class SheetEdgeTest {
    private static final int NONE = MiddleSheet.NONE;
    private static final String GOOD = "voter 1 1;";
    private static final Due DUE = new Due();

    private SheetEdgeTest() { }

    public static void main(String[] args) {
        newObjectHasNothing();
        textHasAtMost600Bytes();
        sheetHasAtMost600Bytes();
        bytesComeHighestFirst();
        bytesComeBehindTheText();
        endTakesNoughtToTheLength();
        endLeavesTheFirstBytesAlone();
        everyByteBeginsOneKindOfToken();
        tokensAreAsLongAsCanBe();
        wordsAreWhole();
        blanksAndLineEndsStandBetween();
        sheetIsOneOrMore();
        nearTakesFourWords();
        nearIsOfVotersBehindIt();
        stretchIsOneToNine();
        stretchIsOfVotersBehindIt();
        voterIsNoughtToNinetyNine();
        weightIsOneToNine();
        votersAreAtMostFifteen();
        placeIsNoughtToNinetyNine();
        placesAreAtMostTwenty();
        winIsOneToNinetyNine();
        winIsNotAboveOneNorBelowAHalf();
        winIsTheFaultByBAlone();
        winIsToldOnce();
        winIsMoreWithout();
        faultIsTheLengthIfItEndsTooEarly();
        faultIsTheLengthWithoutVoter();
        faultIsWhicheverIsAhead();
        faultIsOfTheFirst();
        faultChangesNothing();
        sheetTakesThePlaceOfAll();
        sheetWithFaultStays();
        textIsEmptyBehindSheet();
        DUE.close();
    }

    // ---- helpers ----

    private static int faultOf(String text) {
        MiddleSheet m = new MiddleSheet();
        Due.write(m, text);
        return m.fault();
    }

    private static void taken(String text) {
        MiddleSheet m = new MiddleSheet();
        Due.write(m, text);
        DUE.is("fault of [" + text + "]", m.fault(), NONE);
        DUE.is("taken [" + text + "]", m.sheet() > 0, true);
    }

    private static void refused(String text, int fault) {
        MiddleSheet m = new MiddleSheet();
        Due.write(m, text);
        DUE.is("fault of [" + text + "]", m.fault(), fault);
        DUE.is("sheet of [" + text + "]", m.sheet(), NONE);
    }

    /** The number stands between two parts of a SHEET: from least to most it is taken, beyond it is the FAULT. */
    private static void numbersBetween(String ahead, String behind, int least, int most) {
        for (int n = least; n <= most; n++) {
            taken(ahead + n + behind);
        }
        taken(ahead + "00" + least + behind);
        taken(ahead + "0" + most + behind);
        if (least > 0) {
            refused(ahead + (least - 1) + behind, ahead.length());
            refused(ahead + "000" + behind, ahead.length());
        }
        refused(ahead + (most + 1) + behind, ahead.length());
        refused(ahead + "0" + (most + 1) + behind, ahead.length());
        // By Java's wrap-around these would be 1 again.
        refused(ahead + "257" + behind, ahead.length());
        refused(ahead + "4294967297" + behind, ahead.length());
        refused(ahead + "18446744073709551617" + behind, ahead.length());
        refused(ahead + "1".repeat(300) + behind, ahead.length());
    }

    // ---- promises 1 to 3: the text ----

    /** No VOTERS, no PLACES. */
    private static void newObjectHasNothing() {
        for (int what = 0; what <= 5; what++) {
            DUE.is("new: count " + what, new MiddleSheet().count(what), 0);
        }
        DUE.is("new: voter 0", new MiddleSheet().voter(0, 0), NONE);
        DUE.is("new: place 0", new MiddleSheet().place(0, 0), NONE);
        DUE.is("new: fault", new MiddleSheet().fault(), 0);
        DUE.is("new: sheet", new MiddleSheet().sheet(), NONE);
    }

    /** NONE if there would be more than 600. */
    private static void textHasAtMost600Bytes() {
        for (int length = 560; length <= 600; length++) {
            MiddleSheet m = new MiddleSheet();
            Due.write(m, " ".repeat(length));
            boolean fits = length + 20 <= 600;
            DUE.is("feed behind " + length, m.feed(1, 2, 3, 4, 5), fits ? length + 20 : NONE);
            DUE.is("bytes then", m.count(4), fits ? length + 20 : length);
            DUE.is("the first that is no blank", m.fault(), length);
        }
        MiddleSheet often = new MiddleSheet();
        Due.write(often, " ".repeat(600));
        for (int n = 0; n < 50; n++) {
            DUE.is("refused again", often.feed(0, 0, 0, 0, 0), NONE);
        }
        DUE.is("still 600", often.count(4), 600);
        DUE.is("still blank", often.fault(), 600);
    }

    /** A SHEET is a text of at most 600 bytes. */
    private static void sheetHasAtMost600Bytes() {
        MiddleSheet m = new MiddleSheet();
        String whole = " ".repeat(590) + "voter 7 8;";
        Due.write(m, whole);
        DUE.is("600 bytes", m.count(4), 600);
        DUE.is("the last one is read", m.fault(), NONE);
        m.end(599);
        DUE.is("599 bytes end too early", m.fault(), 599);
        Due.write(m, whole);
        DUE.is("taken", m.sheet(), 1);
        DUE.is("y", m.voter(0, 1), 8);
        refused(GOOD + " ".repeat(589) + "x", 599);
        taken(GOOD + " ".repeat(590));
    }

    /** Of each number the highest first. */
    private static void bytesComeHighestFirst() {
        String text = "stretch 2 3;place 45 67;voter 8 9 by 1;  ";
        byte[] bytes = Due.bytes(text.substring(0, 40));
        MiddleSheet m = new MiddleSheet();
        for (int at = 0; at < 40; at += 20) {
            int[] n = new int[5];
            for (int i = 0; i < 20; i++) {
                n[i / 4] = n[i / 4] * 256 + bytes[at + i];
            }
            DUE.is("feed", m.feed(n[0], n[1], n[2], n[3], n[4]), at + 20);
        }
        DUE.is("sheet", m.sheet(), 1);
        DUE.is("x of the PLACE", m.place(0, 0), 45);
        DUE.is("y of the PLACE", m.place(0, 1), 67);
        DUE.is("stretch", m.voter(0, 5), 3);
        // A highest bit doesn't spread to other bytes: 0x80000000 is the byte 128 and three of 0.
        for (int i = 0; i < 20; i++) {
            int[] n = {0x20202020, 0x20202020, 0x20202020, 0x20202020, 0x20202020};
            n[i / 4] ^= (0x20 ^ 0x80) << 8 * (3 - i % 4);
            MiddleSheet other = new MiddleSheet();
            other.feed(n[0], n[1], n[2], n[3], n[4]);
            DUE.is("byte 128 at " + i, other.fault(), i);
        }
    }

    /** Bytes come behind those of the text, however long it is. */
    private static void bytesComeBehindTheText() {
        for (int length = 0; length <= 20; length++) {
            MiddleSheet m = new MiddleSheet();
            Due.write(m, " ".repeat(length));
            m.feed(0x766f7465, 0x72203020, 0x303b766f, 0x74657220, 0x3920303b);
            DUE.is("behind " + length, m.count(4), length + 20);
            m.end(length + 10);
            DUE.is("one VOTER behind " + length, m.sheet(), 1);
        }
    }

    /** False if it has not so many, or n is below 0. */
    private static void endTakesNoughtToTheLength() {
        for (int length : new int[] {0, 1, 19, 20, 21, 599, 600}) {
            for (int n : new int[] {Integer.MIN_VALUE, -600, -1, length + 1, 601, Integer.MAX_VALUE}) {
                MiddleSheet m = new MiddleSheet();
                Due.write(m, " ".repeat(length));
                DUE.is("end(" + n + ") of " + length, m.end(n), false);
                DUE.is("then", m.count(4), length);
            }
            for (int n : new int[] {length, Math.max(0, length - 1), length / 2, 0}) {
                MiddleSheet m = new MiddleSheet();
                Due.write(m, " ".repeat(length));
                DUE.is("end(" + n + ") of " + length, m.end(n), true);
                DUE.is("then", m.count(4), n);
                DUE.is("fault then", m.fault(), n);
            }
        }
    }

    /** The text has its first n bytes alone: what was behind them doesn't come back. */
    private static void endLeavesTheFirstBytesAlone() {
        MiddleSheet m = new MiddleSheet();
        Due.write(m, "voter 1 1;voter 2 2;");
        m.end(10);
        DUE.is("no longer", m.end(11), false);
        m.feed(0x706c6163, 0x65203320, 0x333b706c, 0x61636520, 0x3420343b);
        DUE.is("30 bytes", m.count(4), 30);
        DUE.is("one VOTER", m.sheet(), 1);
        DUE.is("two PLACES", m.count(1), 2);
        MiddleSheet cut = new MiddleSheet();
        Due.write(cut, "voter 12 34;");
        cut.end(11);
        DUE.is("cut ahead of the end", cut.fault(), 11);
        cut.end(7);
        DUE.is("cut in a number", cut.fault(), 7);
        cut.end(6);
        DUE.is("cut ahead of a number", cut.fault(), 6);
        cut.end(5);
        DUE.is("cut behind the word", cut.fault(), 5);
        cut.end(4);
        DUE.is("cut in the word", cut.fault(), 0);
    }

    // ---- part 1: TOKENS ----

    /** Words of small letters, numbers of digits, / and ; with blanks (32) and line ends (10); no other byte. */
    private static void everyByteBeginsOneKindOfToken() {
        for (int b = 0; b < 256; b++) {
            char sign = (char) b;
            boolean letter = b >= 97 && b <= 122;
            boolean digit = b >= 48 && b <= 57;
            boolean blank = b == 32 || b == 10;
            // As a letter it makes the word longer, as a digit it is x, as a blank it is nothing.
            int want = blank ? NONE : letter ? 0 : digit ? 9 : 5;
            DUE.is("byte " + b + " behind voter", faultOf("voter" + sign + " 1 1;"), want);
            int inNumber = blank ? NONE : digit ? 6 : 7;
            DUE.is("byte " + b + " behind a number", faultOf("voter 1" + sign + "1;"), inNumber);
            int instead = b == ';' ? NONE : digit || blank ? 10 : 9;
            DUE.is("byte " + b + " for ;", faultOf("voter 1 1" + sign), instead);
            int slash = b == '/' ? NONE : digit ? 9 : blank ? 11 : 10;
            DUE.is("byte " + b + " for /", faultOf("win over 1" + sign + "1;voter 1 1;"), slash);
        }
    }

    /** As long as can be. */
    private static void tokensAreAsLongAsCanBe() {
        taken("voter1 1;");
        taken("voter 1 1by 1;");
        taken("voter 1 1by1;");
        taken("stretch1 1;voter 1 1;");
        refused("votervoter 1 1;", 0);
        refused("voter 11;", 8);
        refused("voter 1 1 by1by;", 13);
        refused("nearside;voter 1 1;", 0);
        refused("winmore;voter 1 1;", 0);
        refused("win over1/22;voter 1 1;", 10);
        refused("voter 1 1 byby 1;", 10);
        refused("voter 1 1 b y 1;", 10);
        refused("vo ter 1 1;", 0);
        refused("voter 1 001 0;", 12);
        taken("voter 1 0 ;");
    }

    /** A word with any of its letters changed, left out, or told twice is another word. */
    private static void wordsAreWhole() {
        String[][] words = {{"", "voter", " 1 1;"}, {GOOD, "place", " 1 1;"}, {GOOD, "near", " crow;"},
            {GOOD, "stretch", " 1 1;"}, {GOOD, "win", " more;"}, {"voter 1 1 ", "by", " 1;"}, {GOOD + "near ", "crow", ";"},
            {GOOD + "near ", "street", ";"}, {GOOD + "near ", "side", ";"}, {GOOD + "near ", "line", ";"},
            {GOOD + "win ", "more", ";"}, {GOOD + "win ", "over", " 1/1;"}, {GOOD + "win ", "least", " 1/1;"}};
        for (String[] parts : words) {
            String ahead = parts[0];
            String word = parts[1];
            taken(ahead + word + parts[2]);
            for (int i = 0; i < word.length(); i++) {
                String first = word.substring(0, i);
                String last = word.substring(i + 1);
                refused(ahead + first + "q" + last + parts[2], ahead.length());
                refused(ahead + first + last + parts[2], ahead.length());
                refused(ahead + first + word.charAt(i) + word.charAt(i) + last + parts[2], ahead.length());
            }
        }
    }

    /** With any blanks (32) and line ends (10) between. */
    private static void blanksAndLineEndsStandBetween() {
        taken("voter 1 1;");
        taken("\n\nvoter\n1\n1\nby\n1\n;\n\n");
        taken("   voter   1   1   by   1   ;   ");
        taken(" \n \nwin \n over\n 1 \n/ 1\n ;\n voter\n \n0 0;");
        refused("\rvoter 1 1;", 0);
        refused("voter\t1 1;", 5);
        refused("voter 1 1;\r\n", 10);
        refused("voter 1 1;" + (char) 160, 10);
        refused("voter 1 1;" + (char) 138, 10);
        refused("voter 1 1;" + (char) 0, 10);
    }

    /** A SHEET is one or more of these. */
    private static void sheetIsOneOrMore() {
        refused("", 0);
        refused(" ", 1);
        refused("\n", 1);
        refused(";", 0);
        refused("/", 0);
        taken(GOOD);
        refused(GOOD + ";", 10);
        taken("win more;place 0 0;stretch 1 1;near crow;voter 0 0;");
        taken("voter 0 0;near crow;stretch 1 1;place 0 0;win more;");
    }

    // ---- part 1: what a SHEET tells ----

    /** N crow, street, side or line. */
    private static void nearTakesFourWords() {
        String[] words = {"crow", "street", "side", "line"};
        for (int n = 0; n < words.length; n++) {
            String word = words[n];
            MiddleSheet m = Due.of("near " + word + ";voter 1 1;");
            DUE.is("near " + word, m.voter(0, 3), n);
            refused("near " + word.substring(1) + ";" + GOOD, 5);
            refused("near " + word.substring(0, word.length() - 1) + ";" + GOOD, 5);
            refused("near " + word + "s;" + GOOD, 5);
            refused("near " + word + " " + word + ";" + GOOD, 6 + word.length());
            refused("near " + word, 5 + word.length());
            refused(word + ";" + GOOD, 0);
        }
        for (String word : new String[] {"near", "voter", "more", "by", "win", "x", "1", "/", ";"}) {
            refused("near " + word + ";" + GOOD, 5);
        }
    }

    /** Of voters told behind it; crow at first. */
    private static void nearIsOfVotersBehindIt() {
        MiddleSheet m = Due.of("voter 0 0;near line;near side;voter 0 0;voter 0 0;near street;voter 0 0;near crow;"
                + "voter 0 0;near line;");
        int[] want = {0, 2, 2, 1, 0};
        for (int v = 0; v < want.length; v++) {
            DUE.is("measure of " + v, m.voter(v, 3), want[v]);
        }
    }

    /** 1 .. 9 each. */
    private static void stretchIsOneToNine() {
        numbersBetween("stretch ", " 5;" + GOOD, 1, 9);
        numbersBetween("stretch 5 ", ";" + GOOD, 1, 9);
        refused("stretch ;" + GOOD, 8);
        refused("stretch 1;" + GOOD, 9);
        refused("stretch 1 2 3;" + GOOD, 12);
    }

    /** Of voters told behind it; 1 1 at first. */
    private static void stretchIsOfVotersBehindIt() {
        MiddleSheet m = Due.of("voter 0 0;stretch 2 3;stretch 4 5;voter 0 0;voter 0 0;stretch 9 1;voter 0 0;stretch 7 7;");
        int[][] want = {{1, 1}, {4, 5}, {4, 5}, {9, 1}};
        for (int v = 0; v < want.length; v++) {
            DUE.is("A of " + v, m.voter(v, 4), want[v][0]);
            DUE.is("B of " + v, m.voter(v, 5), want[v][1]);
        }
    }

    /** voter X Y: 0 .. 99 each. */
    private static void voterIsNoughtToNinetyNine() {
        numbersBetween("voter ", " 5;", 0, 99);
        numbersBetween("voter 5 ", ";", 0, 99);
        numbersBetween("voter ", " 5 by 5;", 0, 99);
        numbersBetween("voter 5 ", " by 5;", 0, 99);
    }

    /** A WEIGHT 1 .. 9, 1 without. */
    private static void weightIsOneToNine() {
        numbersBetween("voter 5 5 by ", ";", 1, 9);
        for (int weight = 1; weight <= 9; weight++) {
            DUE.is("by " + weight, Due.of("voter 5 5 by " + weight + ";").voter(0, 2), weight);
        }
        MiddleSheet m = Due.of("voter 5 5 by 9;voter 5 5;");
        DUE.is("1 without", m.voter(1, 2), 1);
        DUE.is("of the one alone", m.voter(0, 2), 9);
    }

    /** At most 15; the FAULT is the 16th voter. */
    private static void votersAreAtMostFifteen() {
        for (int n = 1; n <= 15; n++) {
            DUE.is(n + " voters", Due.of(GOOD.repeat(n)).count(0), n);
        }
        refused(GOOD.repeat(16), 150);
        refused(GOOD.repeat(17), 150);
        refused(GOOD.repeat(15) + " voter", 151);
        refused(GOOD.repeat(15) + "\nvoter 100 $", 151);
        refused(GOOD.repeat(15) + "place 1 1;voter 1 1;", 160);
        taken("place 1 1;".repeat(20) + GOOD.repeat(15));
        taken(GOOD.repeat(15) + "win more;near line;stretch 1 1;place 1 1;");
        // Those that were there don't count with those that come.
        MiddleSheet again = Due.of(GOOD.repeat(15));
        Due.write(again, GOOD.repeat(15));
        DUE.is("15 once more", again.sheet(), 15);
    }

    /** place X Y: 0 .. 99 each. */
    private static void placeIsNoughtToNinetyNine() {
        numbersBetween("place ", " 5;" + GOOD, 0, 99);
        numbersBetween("place 5 ", ";" + GOOD, 0, 99);
        refused("place 5 5 by 1;" + GOOD, 10);
    }

    /** At most 20; the FAULT is the 21st place. */
    private static void placesAreAtMostTwenty() {
        for (int n = 0; n <= 20; n++) {
            DUE.is(n + " places", Due.of(GOOD + "place 1 1;".repeat(n)).count(1), n);
        }
        refused(GOOD + "place 1 1;".repeat(21), 210);
        refused("place 1 1;".repeat(21) + GOOD, 200);
        refused("place 1 1;".repeat(20) + " place", 201);
        refused("place 1 1;".repeat(20) + "\nplace 100", 201);
        MiddleSheet again = Due.of(GOOD + "place 1 1;".repeat(20));
        Due.write(again, GOOD + "place 1 1;".repeat(20));
        DUE.is("20 once more", again.sheet(), 1);
        DUE.is("places then", again.count(1), 20);
    }

    /** win over A / B: 1 .. 99. */
    private static void winIsOneToNinetyNine() {
        for (String word : new String[] {"over", "least"}) {
            String ahead = "win " + word + " ";
            refused(ahead + "0/1;" + GOOD, ahead.length());
            refused(ahead + "0/0;" + GOOD, ahead.length());
            taken(ahead + "1/1;" + GOOD);
            taken(ahead + "99/99;" + GOOD);
            refused(ahead + "100/99;" + GOOD, ahead.length());
            refused(ahead + "100/100;" + GOOD, ahead.length());
            refused(ahead + "1/0;" + GOOD, ahead.length() + 2);
            refused(ahead + "50/100;" + GOOD, ahead.length() + 3);
            refused(ahead + "99/100;" + GOOD, ahead.length() + 3);
            taken(ahead + "50/99;" + GOOD);
            taken(ahead + "001/002;" + GOOD);
            refused(ahead + "4294967297/1;" + GOOD, ahead.length());
            refused(ahead + "1/4294967297;" + GOOD, ahead.length() + 2);
        }
    }

    /** A not above B, 2 A not below B. */
    private static void winIsNotAboveOneNorBelowAHalf() {
        for (int a = 1; a <= 99; a++) {
            for (int b : new int[] {1, a - 1, a, a + 1, 2 * a - 1, 2 * a, 2 * a + 1, 98, 99}) {
                if (b < 1 || b > 99) {
                    continue;
                }
                String ahead = "win least " + a + "/";
                boolean can = a <= b && b <= 2 * a;
                DUE.is(ahead + b, faultOf(ahead + b + ";" + GOOD), can ? NONE : ahead.length());
            }
        }
    }

    /** For win B if by it A and B can't be: not A, and not what comes behind B. */
    private static void winIsTheFaultByBAlone() {
        refused("win over 3 / 2 ;" + GOOD, 13);
        refused("win over 3 / 7 ;" + GOOD, 13);
        refused("win least 3\n/\n7", 14);
        refused("win least 3 / 7 $", 14);
        refused("win least 3 $ 7", 12);
        refused("win least 3 ;", 12);
        refused("win least 3 7;", 12);
        refused("win least / 7;", 10);
        refused("win least 3 / ;", 14);
        refused("win least 3 / 4 / 5;", 16);
        refused("win least 3 / 4 5;", 16);
        refused("win most 3 / 4;", 4);
        refused("win more 3 / 4;", 9);
        refused("win 3 / 4;", 4);
        refused("win ;", 4);
    }

    /** At most once; the FAULT is a second win. */
    private static void winIsToldOnce() {
        String[] bars = {"win more;", "win over 1/2;", "win least 3/4;"};
        for (String first : bars) {
            taken(first + GOOD);
            taken(GOOD + first);
            for (String second : bars) {
                refused(first + GOOD + second, first.length() + 10);
                refused(first + " " + second + GOOD, first.length() + 1);
            }
            refused(first + GOOD + "win $", first.length() + 10);
        }
        MiddleSheet again = Due.of("win more;" + GOOD);
        Due.write(again, "win more;" + GOOD);
        DUE.is("one in each SHEET", again.sheet(), 1);
    }

    /** More without; the bar is of the SHEET, wherever it stands in it. */
    private static void winIsMoreWithout() {
        String rest = "voter 0 0 by 3;voter 9 0 by 2;place 0 0;place 9 0;";
        DUE.is("without", Due.of(rest).beats(0, 1), true);
        DUE.is("more", Due.of("win more;" + rest).beats(0, 1), true);
        DUE.is("over ahead", Due.of("win over 3/5;" + rest).beats(0, 1), false);
        DUE.is("over behind", Due.of(rest + "win over 3/5;").beats(0, 1), false);
        DUE.is("least ahead", Due.of("win least 3/5;" + rest).beats(0, 1), true);
        MiddleSheet again = Due.of("win over 3/5;" + rest);
        Due.write(again, rest);
        again.sheet();
        DUE.is("more again", again.beats(0, 1), true);
    }

    // ---- part 1: the FAULT ----

    /** The length, if it ends too early; a word cut short is a TOKEN that can't stand there. */
    private static void faultIsTheLengthIfItEndsTooEarly() {
        String whole = "near side; stretch 1 2;voter 3 4 by 5 ;place 67 8;win over 8 / 9;voter 10 11;";
        for (int n = 0; n <= whole.length(); n++) {
            boolean cutWord = n > 0 && n < whole.length() && isLetter(whole, n - 1) && isLetter(whole, n);
            int word = n;
            while (word > 0 && isLetter(whole, word - 1)) {
                word--;
            }
            String cut = whole.substring(0, n);
            boolean complete = cut.trim().endsWith(";") && cut.contains("voter");
            DUE.is("fault of [" + cut + "]", faultOf(cut), cutWord ? word : complete ? NONE : n);
        }
    }

    private static boolean isLetter(String text, int at) {
        return text.charAt(at) >= 'a' && text.charAt(at) <= 'z';
    }

    /** The length, if it has no voter. */
    private static void faultIsTheLengthWithoutVoter() {
        refused("place 1 1;", 10);
        refused("place 1 1; \n ", 13);
        refused("near line;stretch 2 2;win more;place 1 1;", 41);
        refused("near line;", 10);
        refused("place 1 1;;", 10);
        refused(" ".repeat(600), 600);
        taken("place 1 1;voter 1 1;");
    }

    /** Of a byte that begins no TOKEN, if that is ahead. */
    private static void faultIsWhicheverIsAhead() {
        refused("$", 0);
        refused("  $", 2);
        refused("voter $", 6);
        refused("voter 1 1; ; $", 11);
        refused("voter 1 1; $ ;", 11);
        refused("voter 100 $", 6);
        refused("voter $ 100", 6);
        refused("voter 1 1$", 9);
        refused("voter 1 1;voterX 1 1;", 15);
        refused("vote$ 1 1;", 0);
        refused("near li$e;", 5);
        refused("near line$;", 9);
        refused("voter 1 -1;", 8);
        refused("voter 1.5 1;", 7);
        refused("place 1 1;$", 10);
    }

    /** The first TOKEN that can't stand there, by its first byte. */
    private static void faultIsOfTheFirst() {
        refused("voter 123 456;", 6);
        refused("voter 12 456;place 456 1;", 9);
        refused("  voters 1 1;", 2);
        refused("voter 1 1 by 5 by 5;", 15);
        refused("by 5;", 0);
        refused("more;", 0);
        refused("over 1/2;", 0);
        refused("5;", 0);
        refused("voter voter 1 1;", 6);
        refused("voter 1 voter;", 8);
        refused("voter by 1;", 6);
        refused("voter 1 by 1;", 8);
        refused("voter / 1;", 6);
    }

    /** fault() and sheet() are asked as often as one likes. */
    private static void faultChangesNothing() {
        MiddleSheet m = new MiddleSheet();
        Due.write(m, "win over 2/3;near line;stretch 2 2;" + GOOD.repeat(16));
        for (int n = 0; n < 5; n++) {
            DUE.is("fault again", m.fault(), 185);
            DUE.is("sheet again", m.sheet(), NONE);
        }
        m.end(185);
        for (int n = 0; n < 5; n++) {
            DUE.is("none again", m.fault(), NONE);
            DUE.is("nothing comes of asking", m.count(0), 0);
        }
        DUE.is("sheet", m.sheet(), 15);
    }

    // ---- promise 5 ----

    /** Takes the place of all that was told: VOTERS and PLACES have numbers as they come; nothing was moved. */
    private static void sheetTakesThePlaceOfAll() {
        MiddleSheet m = Due.of("near side;stretch 4 5;win over 1/1;" + "voter 9 9 by 9;".repeat(15) + "place 8 8;".repeat(20));
        for (int n = 0; n < 40; n++) {
            m.move(n % 15, n, 50);
        }
        Due.write(m, "place 1 2;voter 3 4;place 5 6;voter 7 8 by 2;");
        DUE.is("sheet", m.sheet(), 2);
        int[] counts = {2, 2, 3, 0, 0, 1};
        for (int what = 0; what < counts.length; what++) {
            DUE.is("count " + what, m.count(what), counts[what]);
        }
        int[][] voters = {{3, 4, 1, 0, 1, 1}, {7, 8, 2, 0, 1, 1}, {NONE, NONE, NONE, NONE, NONE, NONE}};
        for (int v = 0; v < voters.length; v++) {
            for (int what = 0; what < 6; what++) {
                DUE.is("voter " + v + " " + what, m.voter(v, what), voters[v][what]);
            }
        }
        int[][] places = {{1, 2}, {5, 6}, {NONE, NONE}};
        for (int p = 0; p < places.length; p++) {
            DUE.is("x of place " + p, m.place(p, 0), places[p][0]);
            DUE.is("y of place " + p, m.place(p, 1), places[p][1]);
        }
        DUE.is("nothing moved", m.moved(0, 0), NONE);
        DUE.is("nothing to take back", m.undo(), NONE);
        DUE.is("the first MOVE", m.move(0, 0, 0), 1);
        DUE.is("the third PLACE", m.propose(0, 0), 2);
    }

    /** NONE with a FAULT (it stays): the text, and all that was told. */
    private static void sheetWithFaultStays() {
        MiddleSheet m = Due.of("win least 3/4;near side;stretch 4 5;voter 9 9 by 3;place 8 8;place 9 9;");
        m.move(0, 50, 51);
        String[] faulty = {"", "win more;", "voter 1 1;voter 2 2;voter 3 100;", "win over 1/2;voter 1 1;place 1 1;?",
            GOOD.repeat(16), "place 1 1;".repeat(20), "near crow;voter 1 1"};
        for (String text : faulty) {
            Due.write(m, text);
            int fault = m.fault();
            DUE.is("sheet of [" + text + "]", m.sheet(), NONE);
            DUE.is("the text stays", m.count(4), text.length());
            DUE.is("the FAULT stays", m.fault(), fault);
            int[] counts = {1, 2, 3, 1};
            for (int what = 0; what < counts.length; what++) {
                DUE.is("count " + what, m.count(what), counts[what]);
            }
            int[] voter = {50, 51, 3, 2, 4, 5};
            for (int what = 0; what < voter.length; what++) {
                DUE.is("voter " + what, m.voter(0, what), voter[what]);
            }
            DUE.is("beats", m.beats(1, 0), true);
            DUE.is("lines", m.line(NONE, 0), 0);
        }
    }

    /** Which is empty then. */
    private static void textIsEmptyBehindSheet() {
        MiddleSheet m = new MiddleSheet();
        Due.write(m, GOOD);
        DUE.is("sheet", m.sheet(), 1);
        DUE.is("no bytes", m.count(4), 0);
        DUE.is("no longer there", m.end(1), false);
        DUE.is("end(0)", m.end(0), true);
        DUE.is("fault of nothing", m.fault(), 0);
        DUE.is("sheet of nothing", m.sheet(), NONE);
        DUE.is("feed from the start", m.feed(0, 0, 0, 0, 0), 20);
        DUE.is("at the start", m.fault(), 0);
        DUE.is("the VOTER", m.count(0), 1);
    }
}
