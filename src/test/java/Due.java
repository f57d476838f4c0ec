import java.nio.charset.StandardCharsets;
import java.util.Arrays;

/** What the project's tests have in common: answers compared with what is due, and texts told at once. */
final class Due {
    private int wrong;
    private int asked;

    void is(String call, long got, long want) {
        asked++;
        if (got != want) {
            wrong++;
            if (wrong <= 50) {
                System.out.println(call + " answered " + got + ", due is " + want);
            }
        }
    }

    void is(String call, boolean got, boolean want) {
        is(call, got ? 1L : 0L, want ? 1L : 0L);
    }

    boolean hasWrong() {
        return wrong > 0;
    }

    /** To stand at the end of a main method. */
    void close() {
        System.out.println(asked + " answers, " + wrong + " of them wrong");
        if (wrong > 0 || asked == 0) {
            System.exit(1);
        }
    }

    /** The five numbers for each call of feed that a text needs, with blanks behind it. */
    static int[][] numbersOf(byte[] text) {
        int calls = (text.length + 19) / 20;
        byte[] padded = Arrays.copyOf(text, calls * 20);
        Arrays.fill(padded, text.length, padded.length, (byte) ' ');
        int[][] numbers = new int[calls][5];
        for (int i = 0; i < padded.length; i++) {
            numbers[i / 20][i % 20 / 4] |= (padded[i] & 255) << 8 * (3 - i % 4);
        }
        return numbers;
    }

    static byte[] bytes(String text) {
        return text.getBytes(StandardCharsets.ISO_8859_1);
    }

    /** The text takes the place of whatever text there is. */
    static void write(MiddleSheet m, byte[] text) {
        m.end(0);
        for (int[] n : numbersOf(text)) {
            m.feed(n[0], n[1], n[2], n[3], n[4]);
        }
        m.end(text.length);
    }

    static void write(MiddleSheet m, String text) {
        write(m, bytes(text));
    }

    static MiddleSheet of(String text) {
        MiddleSheet m = new MiddleSheet();
        write(m, text);
        m.sheet();
        return m;
    }
}
