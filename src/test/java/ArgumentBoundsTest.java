import java.util.ArrayList;
import java.util.List;

/**
 * "BAD (a number is not as told; there is no such thing)": each argument of promises 9 to 31 at its last
 * good number and beyond, on both sides, with any number of children; numbers that wrap around.
 *
 * <p>The arguments of promises 2 to 6 stand in RowBoundsTest and TapeBoundsTest.
 */
public final class ArgumentBoundsTest {
    private static final String FIVE = "law 1;drain 3 3;child small 2 2 3;child big 1 2 2;child apron 0 0 1;"
            + "child glove 5 4 9;child shy 2 1 9;";

    private static final Check T = new Check("ArgumentBoundsTest");

    public static void main(String[] args) {
        child();
        cell();
        power();
        mean();
        some();
        stand();
        brothers();
        rounds();
        aim();
        throwsFor();
        cool();
        stood();
        image();
        restore();
        kind();
        as();
        ask();
        trace();
        count();
        childrenThereAre();
        T.end();
    }

    private static HotPennies five() {
        return Check.told(FIVE);
    }

    /** "Of a CHILD: 0 CELL, 1 STRENGTH, as told, 2 pennies. BAD." */
    private static void child() {
        HotPennies x = five();
        T.bounds("child(.., 0)", 0, 4, child -> x.child(child, 0));
        T.bounds("child(1, ..)", 0, 2, what -> x.child(1, what));
        x.toss(14, 0, 5, 1);
        T.due("child(1, 0)", x.child(1, 0), 13);
        T.due("child(1, 1): as told, not twice", x.child(1, 1), 2);
        T.due("child(1, 2)", x.child(1, 2), 0);
        T.due("child(0, 2)", x.child(0, 2), 5);
        T.due("child(0, 1)", x.child(0, 1), 3);
        T.due("child(4, 0)", x.child(4, 0), 8);
    }

    /** "who PICKS what lands there (what = 0; NONE: nobody), whether there is a drain (1: 1, 0). BAD" */
    private static void cell() {
        HotPennies x = five();
        T.bounds("cell(.., 0)", 0, 29, cell -> x.cell(cell, 0));
        T.bounds("cell(.., 1)", 0, 29, cell -> x.cell(cell, 1));
        T.bounds("cell(14, ..)", 0, 1, what -> x.cell(14, what));
        T.due("cell(0, 0)", x.cell(0, 0), 2);
        T.due("cell(29, 0)", x.cell(29, 0), 3);
        T.due("cell(21, 0)", x.cell(21, 0), Check.NONE);
        T.due("cell(21, 1)", x.cell(21, 1), 1);
        T.due("cell(22, 0): nobody", x.cell(22, 0), Check.NONE);
        T.due("cell(22, 1)", x.cell(22, 1), 0);
    }

    /** "POWER. BAD." */
    private static void power() {
        HotPennies x = five();
        T.bounds("power(.., 14)", 0, 4, child -> x.power(child, 14));
        T.bounds("power(0, ..)", 0, 29, cell -> x.power(0, cell));
        T.due("power(3, 29)", x.power(3, 29), 18);
        T.due("power(2, 0)", x.power(2, 0), 3);
    }

    /** "MEAN: above (what = 0), below (1). BAD." */
    private static void mean() {
        HotPennies x = five();
        T.bounds("mean(.., 14, 1, 0)", 0, 4, child -> x.mean(child, 14, 1, 0));
        T.bounds("mean(0, .., 1, 0)", 0, 29, cell -> x.mean(0, cell, 1, 0));
        T.bounds("mean(0, 14, .., 0)", 0, 2, spread -> x.mean(0, 14, spread, 0));
        T.bounds("mean(0, 14, 1, ..)", 0, 1, what -> x.mean(0, 14, 1, what));
    }

    /** "SOME of n: above (what = 0), below (1). BAD.", "at least of n (0 to 6)" */
    private static void some() {
        HotPennies x = five();
        T.bounds("some(.., 14, 1, 3, 0)", 0, 4, child -> x.some(child, 14, 1, 3, 0));
        T.bounds("some(0, .., 1, 3, 0)", 0, 29, cell -> x.some(0, cell, 1, 3, 0));
        T.bounds("some(0, 14, .., 3, 0)", 0, 2, spread -> x.some(0, 14, spread, 3, 0));
        T.bounds("some(0, 14, 1, .., 0)", 0, 6, n -> x.some(0, 14, 1, n, 0));
        T.bounds("some(0, 14, 1, 3, ..)", 0, 1, what -> x.some(0, 14, 1, 3, what));
    }

    /** "STAND. BAD." */
    private static void stand() {
        HotPennies x = five();
        T.bounds("stand(.., 14, 1)", 0, 4, child -> x.stand(child, 14, 1));
        T.bounds("stand(0, .., 1)", 0, 29, cell -> x.stand(0, cell, 1));
        T.bounds("stand(0, 14, ..)", 0, 2, spread -> x.stand(0, 14, spread));
    }

    /** "BROTHERS: .. BAD: alike, too." */
    private static void brothers() {
        HotPennies x = five();
        HotPennies y = five();
        T.bounds("brothers(0, 1, .., 1, 0)", 0, 29, cell -> x.brothers(0, 1, cell, 1, 0));
        T.bounds("brothers(0, 1, 14, .., 0)", 0, 2, spread -> x.brothers(0, 1, 14, spread, 0));
        T.bounds("brothers(0, 1, 14, 1, ..)", 0, 1, what -> x.brothers(0, 1, 14, 1, what));
        T.bounds("brothers(.., 4, 14, 1, 0)", 0, 3, a -> y.brothers(a, 4, 14, 1, 0));
        T.bounds("brothers(.., 0, 14, 1, 0)", 1, 4, a -> y.brothers(a, 0, 14, 1, 0));
        T.bounds("brothers(4, .., 14, 1, 0)", 0, 3, b -> y.brothers(4, b, 14, 1, 0));
        T.bounds("brothers(0, .., 14, 1, 0)", 1, 4, b -> y.brothers(0, b, 14, 1, 0));
        for (int c = -1; c <= 5; c++) {
            T.due("brothers alike", y.brothers(c, c, 14, 1, 0), Check.BAD);
        }
    }

    /** "ROUNDS: how many (child = -1), where one is then; NONE. BAD" */
    private static void rounds() {
        HotPennies x = five();
        T.bounds("rounds(.., 1, -1)", 0, 29, cell -> x.rounds(cell, 1, -1));
        T.bounds("rounds(14, .., -1)", 0, 2, spread -> x.rounds(14, spread, -1));
        T.bounds("rounds(14, 1, ..)", -1, 4, child -> x.rounds(14, 1, child));
    }

    /** "AIM: the CELL (what = 0), how many (1). BAD" */
    private static void aim() {
        HotPennies x = five();
        T.bounds("aim(.., 0)", 0, 2, spread -> x.aim(spread, 0));
        T.bounds("aim(1, ..)", 0, 1, what -> x.aim(1, what));
    }

    /** "THROWS: how many (k = -1), the k-th CELL; NONE (not so many, too). BAD: k below -1" */
    private static void throwsFor() {
        HotPennies x = five();
        T.bounds("throwsFor(.., -1)", 0, 2, spread -> x.throwsFor(spread, -1));
        for (int k : new int[] {-2, -3, -256, -65536, Check.MIN, Check.MIN + 1, Check.MIN + 3}) {
            T.due("throwsFor(2, " + k + ")", x.throwsFor(2, k), Check.BAD);
        }
        for (int k : new int[] {3, 4, 30, 256, 65536, 1 << 30, Check.MAX}) {
            T.due("throwsFor(2, " + k + "): not so many", x.throwsFor(2, k), Check.NONE);
        }
    }

    /** "COOL; NONE. BAD." */
    private static void cool() {
        HotPennies x = five();
        T.bounds("cool(.., 14, 1)", 0, 4, child -> x.cool(child, 14, 1));
        T.bounds("cool(0, .., 1)", 0, 29, cell -> x.cool(0, cell, 1));
        T.bounds("cool(0, 14, ..)", 0, 2, spread -> x.cool(0, 14, spread));
    }

    /** "n ITEMS (0 to 20) of a ROW from i on; how many he had (0 to 20). BAD: ROW, n, CHILD, how many; ..; PLACE" */
    private static void stood() {
        HotPennies x = five();
        x.row(3, 1, 40);
        T.bounds("stood(3, 0, .., 0, 0)", 0, 20, n -> x.stood(3, 0, n, 0, 0));
        T.bounds("stood(3, 0, 1, .., 0)", 0, 4, child -> x.stood(3, 0, 1, child, 0));
        T.bounds("stood(3, 0, 20, 0, ..)", 0, 20, had -> x.stood(3, 0, 20, 0, had));
        T.due("stood, the last 20 of 40", x.stood(3, 20, 20, 4, 20), Check.bits(0));
        T.due("stood, one too many", x.stood(3, 21, 20, 4, 20), Check.PLACE);
        T.due("stood, none behind the last", x.stood(3, 40, 0, 0, 0), (1 << 30) - 1);
        for (int i : new int[] {-1, 41, 40 + 256, 1 << 30, Check.MAX, Check.MIN}) {
            T.due("stood(3, " + i + ", 0, 0, 0)", x.stood(3, i, 0, 0, 0), Check.PLACE);
            T.due("stood(3, " + i + ", 20, 0, 0)", x.stood(3, i, 20, 0, 0), Check.PLACE);
        }
        x.row(4, 2, 3);
        T.bounds("stood of an item ..", 0, 29, item -> {
            x.set(4, 1, item);
            return x.stood(4, 0, 3, 0, 0);
        });
    }

    /** "An IMAGE (0, 1) is kept of the SQUARE: 1. BAD" */
    private static void image() {
        HotPennies x = five();
        T.bounds("image(..)", 0, 1, k -> x.image(k));
        T.due("image(0)", x.image(0), 1);
        T.due("image(1)", x.image(1), 1);
    }

    /** "The SQUARE is as an IMAGE kept it ..: 1. BAD; STATE: none was kept." */
    private static void restore() {
        HotPennies x = five();
        T.bounds("restore(..), none was kept", 0, 1, k -> x.restore(k));
        T.due("restore(0)", x.restore(0), Check.STATE);
        T.due("restore(1)", x.restore(1), Check.STATE);
        x.image(0);
        x.image(1);
        T.bounds("restore(..)", 0, 1, k -> x.restore(k));
        T.due("restore(0)", x.restore(0), 1);
        T.due("restore(1)", x.restore(1), 1);
    }

    /** "The KIND of a CHILD, as told (1 to 5). BAD." */
    private static void kind() {
        HotPennies x = five();
        T.bounds("kind(..)", 0, 4, child -> x.kind(child));
        int[] kinds = {1, 2, 5, 4, 3};
        for (int c = 0; c < 5; c++) {
            T.due("kind(" + c + ")", x.kind(c), kinds[c]);
        }
    }

    /** "A CHILD is taken as one of a KIND (0 .. 5): the CHILD's number. BAD; KIND" */
    private static void as() {
        HotPennies x = five();
        T.bounds("as(.., 0)", 0, 4, child -> x.as(child, 0));
        for (int c = 0; c < 5; c++) {
            int child = c;
            T.bounds("as(" + c + ", ..)", 0, 5, kind -> x.as(child, kind));
        }
    }

    /** "An ASK (0, 1) of a CHILD. BAD." */
    private static void ask() {
        HotPennies x = five();
        T.bounds("ask(.., 0)", 0, 4, child -> x.ask(child, 0));
        T.bounds("ask(.., 1)", 0, 4, child -> x.ask(child, 1));
        T.bounds("ask(0, ..)", 0, 1, what -> x.ask(0, what));
    }

    /** "Number i of THE TRACE; NONE.": it is never BAD. */
    private static void trace() {
        HotPennies x = five();
        int[] trace = {12, 11, 10, 24, 21, 20};
        x.ask(1, 0);
        for (int i = -20; i <= 40; i++) {
            T.due("trace(" + i + ")", x.trace(i), i >= 0 && i < 6 ? trace[i] : Check.NONE);
        }
        for (int i : new int[] {256, 257, 65536, 65537, 1 << 30, Check.MAX, Check.MIN, Check.MIN + 1, -256, -65536}) {
            T.due("trace(" + i + ")", x.trace(i), Check.NONE);
        }
    }

    /** "How many: 0 ROWS, .. 6 bytes on the tape. BAD." */
    private static void count() {
        HotPennies x = five();
        T.bounds("count(..)", 0, 6, what -> x.count(what));
    }

    /** All calls with a child: what they answer of one. */
    private static List<Integer> ofChild(HotPennies x, int c) {
        x.row(0, 0, 1);
        return new ArrayList<>(List.of(x.run(c, 9), x.child(c, 0), x.power(c, 9), x.mean(c, 9, 1, 0),
                x.some(c, 9, 1, 2, 0), x.stand(c, 9, 1), x.cool(c, 9, 1), x.stood(0, 0, 1, c, 0), x.kind(c), x.as(c, 0),
                x.ask(c, 0)));
    }

    private static void dueBad(String call, int answer, boolean isBad) {
        T.due(call + " is BAD", answer == Check.BAD ? 1 : 0, isBad ? 1 : 0);
    }

    /** "there is no such thing": with 0 to 5 children, the last one, and the next. */
    private static void childrenThereAre() {
        String[] sorts = {"small", "big", "apron", "glove", "shy"};
        StringBuilder text = new StringBuilder("law 1;");
        for (int n = 0; n <= 5; n++) {
            HotPennies x = Check.told(text.toString());
            for (int c = -1; c <= 6; c++) {
                boolean is = c >= 0 && c < n;
                for (int answer : ofChild(x, c)) {
                    dueBad("a call with child " + c + " of " + n, answer, !is);
                }
                dueBad("rounds(9, 1, " + c + ") of " + n, x.rounds(9, 1, c), !is && c != -1);
                boolean two = is && n > 1;
                int other = c == 0 ? 1 : 0;
                dueBad("brothers(" + c + ", ..) of " + n, x.brothers(c, other, 9, 1, 0), !two);
                dueBad("brothers(.., " + c + ") of " + n, x.brothers(other, c, 9, 1, 0), !two);
                dueBad("corner(" + c + ", ..) of " + n, x.corner(c, other), !two);
                dueBad("corner(.., " + c + ") of " + n, x.corner(other, c), !two);
            }
            if (n < 5) {
                text.append("child ").append(sorts[n]).append(" 1 1 ").append(n + 1).append(';');
            }
        }
        HotPennies x = five();
        Check.read(x, "law 1;child shy 0 0 1;child shy 0 0 1;");
        T.due("child(2, 0) of a square of less children than the one before", x.child(2, 0), Check.BAD);
        T.due("rounds(9, 1, 2)", x.rounds(9, 1, 2), Check.BAD);
    }
}
