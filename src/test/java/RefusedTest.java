import java.util.ArrayList;
import java.util.Arrays;
import java.util.List;

/**
 * What is refused changes nothing, and what only asks changes nothing either: all that can be asked of an object is
 * the same with such a call and without it, and so is what follows from the calls behind it.
 */
public final class RefusedTest {
    private static final int NONE = MiddleSheet.NONE;
    private static final int LEAST = Integer.MIN_VALUE;
    private static final int GREATEST = Integer.MAX_VALUE;
    /** After that many calls what an object answers is free. */
    private static final int MOST_CALLS = 512;
    private static final Due DUE = new Due();

    private interface Call {
        long on(MiddleSheet m);
    }

    private record Named(String name, Call call) { }

    private RefusedTest() { }

    public static void main(String[] args) {
        for (List<Named> story : stories()) {
            String[] want = allAnswers(story);
            DUE.is("the same once more", Arrays.equals(allAnswers(story), want), true);
            for (Named refused : refusedIn(story)) {
                leavesAll(story, refused, want);
            }
            for (Named asking : askingCalls()) {
                leavesAll(story, asking, want);
            }
            for (Named change : changes()) {
                answersNothingOld(story, change);
            }
        }
        DUE.close();
    }

    // ---- stories: what was called so far ----

    private static List<List<Named>> stories() {
        List<List<Named>> all = new ArrayList<>();
        all.add(List.of());
        all.add(List.of(text("voter 1 1;voter 2 100;")));
        all.add(List.of(told("voter 9 9;")));
        all.add(List.of(told("place 0 0;place 30 0;place 15 26;voter 10 0;voter 25 9;voter 10 18;"),
                named("move", m -> m.move(0, 30, 0)), named("propose", m -> m.propose(99, 99)),
                named("move", m -> m.move(2, 5, 5)), text("voter 7 7;voter 8 8;place 1 1;win over 2/3;")));
        all.add(List.of(told("win least 3/5;near side;stretch 2 3;voter 4 0 by 2;voter 1 2;near line;voter 0 4 by 2;place 0 0;"
                + "place 4 1;near street;voter 4 4 by 2;voter 4 3 by 2;place 4 3;place 0 3;place 3 1;"), text(" ".repeat(600))));
        List<Named> full = new ArrayList<>();
        StringBuilder sheet = new StringBuilder("win over 1/2;");
        for (int n = 0; n < 15; n++) {
            sheet.append("voter ").append(n * 7 % 20).append(' ').append(n * n % 23).append(" by ").append(1 + n % 9).append(';');
        }
        full.add(told(sheet + "place 1 1;".repeat(8)));
        for (int p = 8; p < 20; p++) {
            int at = p;
            full.add(named("propose", m -> m.propose(3 * at % 20, 7 * at % 20)));
        }
        for (int n = 0; n < 40; n++) {
            int at = n;
            full.add(named("move", m -> m.move(at % 15, 10 + at % 9, 7 + at % 13)));
        }
        full.add(text("voter 1 1;".repeat(15) + "place 2 2;".repeat(21) + " ".repeat(221)));
        all.add(full);
        return all;
    }

    private static Named named(String name, Call call) {
        return new Named(name, call);
    }

    private static Named text(String text) {
        return named("text [" + text + "]", m -> {
            Due.write(m, text);
            return 0;
        });
    }

    private static Named told(String text) {
        return named("sheet [" + text + "]", m -> {
            Due.write(m, text);
            return m.sheet();
        });
    }

    private static MiddleSheet play(List<Named> story) {
        MiddleSheet m = new MiddleSheet();
        for (Named step : story) {
            step.call.on(m);
        }
        return m;
    }

    // ---- all that can be asked ----

    /** Each answer as a text, on objects that never see more calls than they may. */
    private static String[] allAnswers(List<Named> story) {
        List<String> all = new ArrayList<>();
        MiddleSheet m = play(story);
        int asked = 0;
        for (Named question : questions(m.count(0), m.count(1), m.count(3))) {
            if (asked == MOST_CALLS - 250) {
                m = play(story);
                asked = 0;
            }
            all.add(question.name + " = " + question.call.on(m));
            asked++;
        }
        addWhatFollows(all, play(story));
        addUndone(all, play(story));
        addRead(all, play(story));
        return all.toArray(new String[0]);
    }

    private static List<Named> questions(int voters, int places, int moves) {
        List<Named> all = new ArrayList<>();
        for (int v = 0; v <= voters; v++) {
            for (int what = 0; what < 6; what++) {
                int one = v;
                int other = what;
                all.add(named("voter " + v + " " + what, m -> m.voter(one, other)));
            }
        }
        for (int p = 0; p <= places; p++) {
            int one = p;
            all.add(named("x of place " + p, m -> m.place(one, 0)));
            all.add(named("y of place " + p, m -> m.place(one, 1)));
            all.add(named("need " + p, m -> m.need(one - 1)));
            all.add(named("join " + p, m -> m.join(one)));
            all.add(named("doubt " + p, m -> m.doubt(one, 1)));
            all.add(named("lot " + p, m -> m.lot(one - 1)));
            for (int q = 0; q <= places; q++) {
                int other = q;
                all.add(named("votes " + p + " " + q, m -> m.votes(one, other)));
                all.add(named("led " + p + " " + q, m -> m.led(one, other, NONE)));
            }
        }
        for (int k = 0; k <= moves; k++) {
            for (int what = 0; what < 9; what++) {
                int one = k;
                int other = what;
                all.add(named("moved " + k + " " + what, m -> m.moved(one, other)));
            }
        }
        for (int n = 0; n < 6; n++) {
            int what = n;
            all.add(named("count " + n, m -> m.count(what)));
            all.add(named("round " + n, m -> m.round(what)));
            all.add(named("best " + n, m -> m.best(what)));
            all.add(named("make " + n, m -> m.make(what)));
            all.add(named("proof " + n, m -> m.proof(what)));
            all.add(named("middle " + n, m -> m.middle(what / 3 - 1, what % 3)));
            all.add(named("winSet " + n, m -> m.winSet(3 * what, 9, what % 2)));
            all.add(named("piece " + n, m -> m.piece(3 * what, 9, 0, what % 3)));
            all.add(named("most " + n, m -> m.most(9, 3 * what)));
            all.add(named("between " + n, m -> m.between(what, 5 - what)));
        }
        for (int k = NONE; k < 30; k++) {
            int one = k;
            all.add(named("line " + k, m -> m.line(one, 0) * 1000000L + m.line(one, 1) * 10000L + m.line(one, 2)));
        }
        all.add(named("fault", MiddleSheet::fault));
        all.add(named("rest", MiddleSheet::rest));
        all.add(named("peace", MiddleSheet::peace));
        return all;
    }

    /** What comes of the calls that change something. */
    private static void addWhatFollows(List<String> all, MiddleSheet m) {
        all.add("propose " + m.propose(8, 9));
        all.add("move " + m.move(0, 98, 97) + " of " + m.count(3));
        for (int what = 0; what < 9; what++) {
            all.add("moved " + m.moved(m.count(3) - 1, what));
        }
        all.add("pairs " + m.count(5) + " peace " + m.peace() + " lines " + m.line(NONE, 0));
        all.add("undo " + m.undo());
        all.add("pairs " + m.count(5) + " peace " + m.peace() + " lines " + m.line(NONE, 0));
    }

    private static void addUndone(List<String> all, MiddleSheet m) {
        for (int n = 0; n <= 40; n++) {
            int whose = m.undo();
            all.add("undo " + whose + " " + m.voter(whose, 0) + " " + m.voter(whose, 1) + " " + m.count(3));
        }
        all.add("peace " + m.peace() + " middles " + m.middle(NONE, 0));
    }

    /** The text can't be seen but by what is read from it: all of it, and its first bytes. */
    private static void addRead(List<String> all, MiddleSheet m) {
        all.add("feed " + m.feed(0x20202020, 0x766f7465, 0x72203320, 0x343b2020, 0x20202020));
        for (int n = m.count(4); n >= 0; n -= 41) {
            m.end(n);
            all.add("fault of " + m.count(4) + ": " + m.fault());
        }
        int bytes = m.count(4);
        all.add("sheet " + m.sheet() + " of " + bytes + " leaves " + m.count(4));
        for (int v = 0; v < 15; v++) {
            all.add("voter " + m.voter(v, 0) + " " + m.voter(v, 1) + " " + m.voter(v, 3) + " " + m.voter(v, 4));
        }
    }

    private static void leavesAll(List<Named> story, Named call, String[] want) {
        List<Named> longer = new ArrayList<>(story);
        longer.add(call);
        String[] got = allAnswers(longer);
        for (int i = 0; i < Math.max(got.length, want.length); i++) {
            String one = i < got.length ? got[i] : "nothing";
            String other = i < want.length ? want[i] : "nothing";
            boolean same = one.equals(other);
            DUE.is(same ? "" : names(story) + ", then " + call.name + ": " + one + " for " + other, same, true);
        }
    }

    // ---- what was asked ahead of a change ----

    private static List<Named> changes() {
        List<Named> all = new ArrayList<>();
        all.add(named("move 0", m -> m.move(0, 99, 98)));
        all.add(named("move 0 to where 1 is", m -> m.move(0, m.voter(1, 0), m.voter(1, 1))));
        all.add(named("undo", MiddleSheet::undo));
        all.add(named("propose", m -> m.propose(9, 9)));
        all.add(named("undo all", m -> {
            int taken = 0;
            for (int n = 0; n < 40; n++) {
                taken += m.undo() == NONE ? 0 : 1;
            }
            return taken;
        }));
        String[] sheets = {"voter 50 50;", "voter 50 50;place 1 1;", "voter 1 1;voter 1 1;voter 9 9;place 9 9;place 1 1;",
            "win over 2/3;voter 1 9;voter 9 1;voter 5 5;voter 5 6;place 5 5;place 5 6;place 6 6;"};
        for (String sheet : sheets) {
            all.add(told(sheet));
        }
        return all;
    }

    /** The same change, with everything asked ahead of it and with nothing asked. */
    private static void answersNothingOld(List<Named> story, Named change) {
        List<Named> changed = new ArrayList<>(story);
        changed.add(change);
        List<Named> asked = new ArrayList<>(story);
        asked.addAll(oneOfEach());
        leavesAll(asked, change, allAnswers(changed));
    }

    /** A question for each thing that may be kept once it is worked out. */
    private static List<Named> oneOfEach() {
        List<Named> all = new ArrayList<>();
        all.add(named("line", m -> m.line(0, 0)));
        all.add(named("middle", m -> m.middle(0, 0)));
        all.add(named("proof", m -> m.proof(0)));
        all.add(named("round", m -> m.round(0)));
        all.add(named("lot", m -> m.lot(NONE)));
        all.add(named("rest", MiddleSheet::rest));
        all.add(named("make", m -> m.make(0)));
        all.add(named("join", m -> m.join(0)));
        all.add(named("doubt", m -> m.doubt(0, 1)));
        all.add(named("best", m -> m.best(0)));
        all.add(named("between", m -> m.between(0, 1)));
        all.add(named("piece", m -> m.piece(0, 9, 0, 0)));
        all.add(named("winSet", m -> m.winSet(0, 9, 0)));
        return all;
    }

    private static String names(List<Named> story) {
        StringBuilder names = new StringBuilder();
        for (Named step : story) {
            names.append(step.name).append(' ');
        }
        return names.toString();
    }

    // ---- what is refused ----

    /** All calls of the kinds that change something, with the arguments at their edges, that are refused there. */
    private static List<Named> refusedIn(List<Named> story) {
        List<Named> refused = new ArrayList<>();
        for (Named call : changingCalls(play(story))) {
            if (call.call.on(play(story)) == NONE) {
                refused.add(call);
            }
        }
        DUE.is(names(story) + "has enough that is refused", refused.size() >= 20, true);
        return refused;
    }

    private static List<Named> changingCalls(MiddleSheet now) {
        int voters = now.count(0);
        int bytes = now.count(4);
        List<Named> all = new ArrayList<>();
        all.add(named("feed", m -> m.feed(0x766f7465, 0x72203320, 0x343b2020, -1, LEAST)));
        all.add(named("sheet", MiddleSheet::sheet));
        all.add(named("undo", MiddleSheet::undo));
        for (int n : new int[] {LEAST, -20, -1, bytes + 1, bytes + 20, 601, GREATEST}) {
            all.add(named("end " + n, m -> m.end(n) ? 0 : NONE));
        }
        for (int n : new int[] {LEAST, -1, 100, GREATEST}) {
            all.add(named("propose x " + n, m -> m.propose(n, 5)));
            all.add(named("propose y " + n, m -> m.propose(5, n)));
            all.add(named("move x " + n, m -> m.move(0, n, 5)));
            all.add(named("move y " + n, m -> m.move(0, 5, n)));
        }
        all.add(named("propose", m -> m.propose(5, 5)));
        for (int v : new int[] {LEAST, -1, voters, voters + 1, GREATEST}) {
            all.add(named("move " + v, m -> m.move(v, 5, 5)));
        }
        for (int v = 0; v < voters; v++) {
            int who = v;
            int x = now.voter(v, 0);
            int y = now.voter(v, 1);
            all.add(named("move to where he is, " + v, m -> m.move(who, x, y)));
        }
        all.add(named("move", m -> m.move(0, 77, 78)));
        return all;
    }

    // ---- what only asks ----

    private static List<Named> askingCalls() {
        List<Named> all = new ArrayList<>();
        int[] some = {LEAST, NONE, 0, 2, 19, GREATEST};
        for (int n : some) {
            all.add(named("calls of one number by " + n, m -> m.proof(n) + m.round(n) + m.best(n) + m.lot(n) + m.need(n)
                    + m.make(n) + m.join(n) + m.count(n) + m.fault() + m.rest() + m.peace()));
            for (int k : some) {
                all.add(named("calls of two numbers by " + n + " " + k, m -> m.voter(n, k) + m.place(n, k) + m.votes(n, k)
                        + (m.beats(n, k) ? 1 : 0) + (m.wins(n, k) ? 1 : 0) + m.line(n, k) + m.middle(n, k) + m.between(n, k)
                        + m.most(n, k) + m.doubt(n, k) + m.moved(n, k)));
            }
        }
        for (int n : new int[] {NONE, 0, 2, 99, 100}) {
            all.add(named("calls of more numbers by " + n, m -> m.way(n, n, 0) + m.way(0, 0, n) + m.winSet(n, 9, 0)
                    + m.winSet(9, n, 1) + m.piece(9, n, 0, 2) + m.piece(9, 9, n, 0) + m.led(n, 0, NONE) + m.led(0, n, 1)
                    + m.led(1, 0, n)));
        }
        return all;
    }
}
