/** Promises 13 to 15: child, cell, power. */
public final class CellsTest {
    /** One of each kind, all as strong, in one corner. */
    private static final String KINDS = "law 3;child small 0 0 4;child big 0 0 4;child apron 0 0 4;"
            + "child glove 0 0 4;child shy 0 0 4;";

    public static void main(String[] args) {
        Check t = new Check("CellsTest");
        child(t);
        cell(t);
        powerOfKinds(t);
        powerRefused(t);
        hottest(t);
        t.end();
    }

    private static void child(Check t) {
        HotPennies x = Check.told("law 0;child big 5 4 9;child small 1 0 1;");
        t.due("child(0, 0)", x.child(0, 0), 29);
        t.due("child(0, 1), as told", x.child(0, 1), 9);
        t.due("child(0, 2)", x.child(0, 2), 0);
        t.due("child(1, 0)", x.child(1, 0), 1);
        t.due("child(1, 1)", x.child(1, 1), 1);
        t.due("child(-1, 0)", x.child(-1, 0), Check.BAD);
        t.due("child(2, 0)", x.child(2, 0), Check.BAD);
        t.due("child(0, -1)", x.child(0, -1), Check.BAD);
        t.due("child(0, 3)", x.child(0, 3), Check.BAD);
        x.toss(29, 0, 3, 1);
        x.run(0, 7);
        t.due("child(0, 0) after a run", x.child(0, 0), 7);
        t.due("child(0, 2) after a throw", x.child(0, 2), 3);
    }

    private static void cell(Check t) {
        HotPennies x = Check.told("law 0;drain 3 3;drain 2 2;child small 2 1 2;child small 2 3 2;child glove 2 1 2;");
        t.due("cell(8, 0): the first of two alike", x.cell(8, 0), 0);
        t.due("cell(20, 0)", x.cell(20, 0), 1);
        t.due("cell(14, 0): a drain", x.cell(14, 0), Check.NONE);
        t.due("cell(14, 1)", x.cell(14, 1), 1);
        t.due("cell(21, 1)", x.cell(21, 1), 1);
        t.due("cell(8, 1)", x.cell(8, 1), 0);
        t.due("cell(0, 0): too far", x.cell(0, 0), Check.NONE);
        t.due("cell(29, 1)", x.cell(29, 1), 0);
        t.due("cell(-1, 0)", x.cell(-1, 0), Check.BAD);
        t.due("cell(30, 0)", x.cell(30, 0), Check.BAD);
        t.due("cell(0, -1)", x.cell(0, -1), Check.BAD);
        t.due("cell(0, 2)", x.cell(0, 2), Check.BAD);
        HotPennies y = Check.told(KINDS);
        t.due("cell(0, 0): the big one", y.cell(0, 0), 1);
        t.due("cell(1, 0): the one with an apron", y.cell(1, 0), 2);
        t.due("cell(12, 0): the one with an apron", y.cell(12, 0), 2);
        t.due("cell(13, 0): nobody", y.cell(13, 0), Check.NONE);
        y.run(1, 29);
        t.due("cell(0, 0) without the big one", y.cell(0, 0), 2);
        y.run(2, 29);
        t.due("cell(0, 0) without the apron", y.cell(0, 0), 3);
        t.due("cell(2, 0): a power of 0 picks nothing", y.cell(2, 0), Check.NONE);
    }

    private static void powerOfKinds(Check t) {
        HotPennies x = Check.told(KINDS);
        int[] cells = {0, 1, 12, 3, 29};
        int[][] due = {{5, 1, 0, 0, 0}, {13, 5, 0, 0, 0}, {12, 8, 4, 0, 0}, {8, 4, 0, 0, 0}, {5, 0, 0, 0, 0}};
        for (int c = 0; c < 5; c++) {
            for (int k = 0; k < cells.length; k++) {
                t.due("power(" + c + ", " + cells[k] + ")", x.power(c, cells[k]), due[c][k]);
            }
        }
        x.run(0, 14);
        t.due("power(0, 20), one line on", x.power(0, 20), 1);
        t.due("power(0, 13), one to the left", x.power(0, 13), 1);
        t.due("power(0, 14)", x.power(0, 14), 5);
        HotPennies y = Check.told("law 0;drain 0 0;child small 0 0 4;child shy 5 0 4;");
        t.due("power(0, 0): a drain does not matter", y.power(0, 0), 8);
        t.due("power(0, 6)", y.power(0, 6), 4);
        t.due("power(0, 5): the other end of the line", y.power(0, 5), 0);
        t.due("power(1, 5)", y.power(1, 5), 8);
        t.due("power(1, 4): a shy one", y.power(1, 4), 0);
        t.due("power(1, 6): the next number, far away", y.power(1, 6), 0);
    }

    private static void powerRefused(Check t) {
        HotPennies x = Check.told(KINDS);
        t.due("power(-1, 0)", x.power(-1, 0), Check.BAD);
        t.due("power(5, 0)", x.power(5, 0), Check.BAD);
        t.due("power(0, -1)", x.power(0, -1), Check.BAD);
        t.due("power(0, 30)", x.power(0, 30), Check.BAD);
        t.due("power(4, 29)", x.power(4, 29), 0);
    }

    private static void hottest(Check t) {
        HotPennies x = Check.told("law 20;child small 0 0 9;child big 0 0 9;child apron 0 0 9;"
                + "child glove 0 0 9;child shy 0 0 9;");
        int[] at = {0, 16, 27, 18, 0};
        int[] beside = {0, 0, 18, 9, 0};
        for (int c = 0; c < 5; c++) {
            t.due("power(" + c + ", 0)", x.power(c, 0), at[c]);
            t.due("power(" + c + ", 6)", x.power(c, 6), beside[c]);
        }
    }
}
