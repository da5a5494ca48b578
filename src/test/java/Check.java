/** What the tests share: answers that are due, and texts that are fed. */
final class Check {
    static final int NONE = -1000000, BAD = -1000001, STATE = -1000002, FULL = -1000003;
    static final int NULL = -1000011, PLACE = -1000012, KIND = -1000013, SIZE = -1000014, STORE = -1000015;

    private final String name;
    private int asked;
    private int wrong;

    Check(String name) {
        this.name = name;
    }

    void due(String call, long got, long want) {
        asked++;
        if (got != want) {
            wrong++;
            System.out.println(name + ": " + call + " answered " + got + ", due is " + want);
        }
    }

    void end() {
        System.out.println(name + ": " + asked + " answers, " + wrong + " not as due");
        if (wrong != 0 || asked == 0) {
            System.exit(1);
        }
    }

    /** Feeds a text, eight bytes by a call: the answer of the last call. */
    static int feed(HotPennies x, String text) {
        int answer = 0;
        for (int at = 0; at < text.length(); at += 8) {
            int n = Math.min(8, text.length() - at);
            long w = 0;
            for (int k = 0; k < n; k++) {
                w = w << 8 | text.charAt(at + k) & 255;
            }
            answer = x.feed(w, n);
        }
        return answer;
    }

    /** Feeds a text and reads it: what square() answers. */
    static int read(HotPennies x, String text) {
        feed(x, text);
        return x.square();
    }

    /** A new object with a square. */
    static HotPennies told(String text) {
        HotPennies x = new HotPennies();
        if (read(x, text) < 0) {
            throw new IllegalStateException("the text of a test has a fault: " + text);
        }
        return x;
    }

    /** A row of cells. */
    static void tellRow(HotPennies x, int row, int... items) {
        x.row(row, 2, items.length);
        for (int i = 0; i < items.length; i++) {
            x.set(row, i, items[i]);
        }
    }

    /** Cells as bits. */
    static int bits(int... cells) {
        int bits = 0;
        for (int cell : cells) {
            bits |= 1 << cell;
        }
        return bits;
    }
}
