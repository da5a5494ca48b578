/** Promises 27 to 31: kind, as, ask, trace, count. */
public final class AskedTest {
    /** Kinds 1 to 5, strengths 3 to 7, cells 1, 8, 15, 22, 29. */
    private static final String KINDS = "law 2;child small 1 0 3;child big 2 1 4;child shy 3 2 5;"
            + "child glove 4 3 6;child apron 5 4 7;";

    public static void main(String[] args) {
        Check t = new Check("AskedTest");
        kind(t);
        as(t);
        askSize(t);
        askMark(t);
        cellsThatChange(t);
        refused(t);
        count(t);
        t.end();
    }

    private static void kind(Check t) {
        HotPennies x = Check.told(KINDS);
        for (int c = 0; c < 5; c++) {
            t.due("kind(" + c + ")", x.kind(c), c + 1);
        }
        t.due("kind(-1)", x.kind(-1), Check.BAD);
        t.due("kind(5)", x.kind(5), Check.BAD);
    }

    private static void as(Check t) {
        HotPennies x = Check.told(KINDS);
        // For each child, the kinds 0 to 5 that he is.
        String[] is = {"110000", "111000", "110100", "100010", "100011"};
        for (int c = 0; c < 5; c++) {
            for (int kind = 0; kind <= 5; kind++) {
                boolean one = is[c].charAt(kind) == '1';
                t.due("as(" + c + ", " + kind + ")", x.as(c, kind), one ? c : Check.KIND);
                t.due("status()", x.status(), one ? 0 : 3);
            }
            t.due("kind(" + c + "), as told", x.kind(c), c + 1);
        }
        t.due("as(0, -1)", x.as(0, -1), Check.BAD);
        t.due("as(0, 6)", x.as(0, 6), Check.BAD);
        t.due("as(-1, 0)", x.as(-1, 0), Check.BAD);
        t.due("as(5, 0)", x.as(5, 0), Check.BAD);
        t.due("as(4, 4)", x.as(4, 4), 4);
        t.due("ask after as: by the kind as told", x.ask(4, 0), -186);
        t.due("trace(0)", x.trace(0), 14);
    }

    private static void dueAsk(Check t, HotPennies x, int child, int what, int answer, int... bodies) {
        String of = "ask(" + child + ", " + what + ")";
        t.due(of, x.ask(child, what), answer);
        for (int i = 0; i < bodies.length; i++) {
            t.due("trace(" + i + ") of " + of, x.trace(i), bodies[i]);
        }
        t.due("the end of the trace of " + of, x.trace(bodies.length), Check.NONE);
    }

    private static void askSize(Check t) {
        HotPennies x = Check.told(KINDS);
        dueAsk(t, x, 0, 0, 3 + 0 + 1, 11, 10, 21, 20);
        dueAsk(t, x, 1, 0, -(4 + 2 * (1 + 8)), 12, 11, 10, 24, 21, 20);
        dueAsk(t, x, 2, 0, 5 + 2 + 15 - 1000, 11, 10, 22, 21, 20);
        dueAsk(t, x, 3, 0, 6 - 100, 13, 10);
        dueAsk(t, x, 4, 0, 2 * (7 - 100), 14, 13, 10);
    }

    private static void askMark(Check t) {
        HotPennies x = Check.told(KINDS);
        dueAsk(t, x, 0, 1, 0 + 1, 21, 20);
        dueAsk(t, x, 1, 1, 2 * (1 + 8), 24, 21, 20);
        dueAsk(t, x, 2, 1, 2 + 15 - 1000, 22, 21, 20);
        dueAsk(t, x, 3, 1, 3 - (6 - 100), 23, 20, 13, 10);
        dueAsk(t, x, 4, 1, 4 - 2 * (7 - 100), 23, 20, 14, 13, 10);
    }

    private static void cellsThatChange(Check t) {
        HotPennies x = Check.told(KINDS);
        x.run(0, 29);
        dueAsk(t, x, 0, 1, 29, 21, 20);
        dueAsk(t, x, 0, 0, 32, 11, 10, 21, 20);
        x.undo();
        dueAsk(t, x, 0, 1, 1, 21, 20);
    }

    private static void refused(Check t) {
        HotPennies x = Check.told(KINDS);
        t.due("trace(0) before an ask", x.trace(0), Check.NONE);
        x.ask(3, 0);
        t.due("ask(-1, 0)", x.ask(-1, 0), Check.BAD);
        t.due("ask(5, 0)", x.ask(5, 0), Check.BAD);
        t.due("ask(0, -1)", x.ask(0, -1), Check.BAD);
        t.due("ask(0, 2)", x.ask(0, 2), Check.BAD);
        t.due("trace(0) stays", x.trace(0), 13);
        t.due("trace(1) stays", x.trace(1), 10);
        t.due("trace(2)", x.trace(2), Check.NONE);
        t.due("trace(-1)", x.trace(-1), Check.NONE);
        t.due("trace(15)", x.trace(15), Check.NONE);
        t.due("trace(16)", x.trace(16), Check.NONE);
        t.due("trace(MAX)", x.trace(Integer.MAX_VALUE), Check.NONE);
        t.due("trace(MIN)", x.trace(Integer.MIN_VALUE), Check.NONE);
    }

    private static void count(Check t) {
        HotPennies x = Check.told("law 17;drain 0 0;drain 5 4;drain 0 0;child glove 2 2 3;child glove 4 4 3;");
        t.due("count(-1)", x.count(-1), Check.BAD);
        t.due("count(7)", x.count(7), Check.BAD);
        x.row(3, 0, 0);
        x.row(4, 1, 40);
        x.toss(14, 0, 12, 1);
        x.toss(28, 0, 3, 1);
        Check.feed(x, "law 1");
        int[] due = {2, 2, 2, 17, 2, 15, 5};
        for (int what = 0; what < due.length; what++) {
            t.due("count(" + what + ")", x.count(what), due[what]);
        }
    }
}
