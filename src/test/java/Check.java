import java.util.function.IntUnaryOperator;

/** What the tests share: answers that are due, and texts that are fed. */
final class Check {
    static final int NONE = -1000000, BAD = -1000001, STATE = -1000002, FULL = -1000003;
    static final int NULL = -1000011, PLACE = -1000012, KIND = -1000013, SIZE = -1000014, STORE = -1000015;
    static final int MAX = Integer.MAX_VALUE, MIN = Integer.MIN_VALUE;

    private final String name;
    private int asked;
    private int wrong;

    Check(String name) {
        this.name = name;
    }

    /** A call on an object that is made later. */
    interface Call {
        int on(HotPennies x);
    }

    void due(String call, long got, long want) {
        asked++;
        if (got != want) {
            wrong++;
            System.out.println(name + ": " + call + " answered " + got + ", due is " + want);
        }
    }

    /** One argument of a call: no number from least to most is BAD, each one beyond is. */
    void bounds(String call, int least, int most, IntUnaryOperator answer) {
        int step = most - least > 100 ? (most - least) / 7 : 1;
        for (int v = least; v < most; v += step) {
            due(call + " with " + v + " is BAD", answer.applyAsInt(v) == BAD ? 1 : 0, 0);
        }
        due(call + " with " + most + " is BAD", answer.applyAsInt(most) == BAD ? 1 : 0, 0);
        due(call + " with " + (most + 1), answer.applyAsInt(most + 1), BAD);
        below(call, least, most, answer);
        // Numbers that are good ones in their lowest bits.
        for (int good : new int[] {least, most}) {
            for (int far : new int[] {1 << 8, 1 << 16, 1 << 24, 1 << 30, MIN}) {
                if (good + far < least || good + far > most) {
                    due(call + " with " + (good + far), answer.applyAsInt(good + far), BAD);
                }
            }
        }
    }

    private void below(String call, int least, int most, IntUnaryOperator answer) {
        for (int v : new int[] {least - 1, least - 2, MIN, MIN + 1, MAX, MAX - 1, least - 256, least - 65536, ~most}) {
            if (v < least || v > most) {
                due(call + " with " + v, answer.applyAsInt(v), BAD);
            }
        }
    }

    void end() {
        System.out.println(name + ": " + asked + " answers, " + wrong + " not as due");
        if (wrong != 0 || asked == 0) {
            System.exit(1);
        }
    }

    /** Feeds a text, eight bytes by a call: the answer of the last call. */
    static int feed(HotPennies x, String text) {
        int answer = 0;
        for (int at = 0; at < text.length(); at += 8) {
            int n = Math.min(8, text.length() - at);
            long w = 0;
            for (int k = 0; k < n; k++) {
                w = w << 8 | text.charAt(at + k) & 255;
            }
            answer = x.feed(w, n);
        }
        return answer;
    }

    /** Feeds a text and reads it: what square() answers. */
    static int read(HotPennies x, String text) {
        feed(x, text);
        return x.square();
    }

    /** A new object with a square. */
    static HotPennies told(String text) {
        HotPennies x = new HotPennies();
        if (read(x, text) < 0) {
            throw new IllegalStateException("the text of a test has a fault: " + text);
        }
        return x;
    }

    /** A row of cells. */
    static void tellRow(HotPennies x, int row, int... items) {
        x.row(row, 2, items.length);
        for (int i = 0; i < items.length; i++) {
            x.set(row, i, items[i]);
        }
    }

    /** Cells as bits. */
    static int bits(int... cells) {
        int bits = 0;
        for (int cell : cells) {
            bits |= 1 << cell;
        }
        return bits;
    }
}
