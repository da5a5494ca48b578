/** Promises 16 to 24: mean, some, stand, brothers, rounds, aim, throwsFor, cool, stood. */
public final class ForetoldTest {
    private static final String ONE = "law 0;child small 2 2 3;";
    private static final String ONE_HOT = "law 3;child small 2 2 3;";
    private static final String TWO = "law 0;child small 0 0 3;child small 5 0 3;";

    public static void main(String[] args) {
        Check t = new Check("ForetoldTest");
        mean(t);
        some(t);
        meanRefused(t);
        stand(t);
        brothers(t);
        rounds(t);
        roundsUpToTheLast(t);
        aim(t);
        throwsFor(t);
        cool(t);
        stood(t);
        stoodRefused(t);
        nothingChanges(t);
        t.end();
    }

    private static void dueMean(Check t, HotPennies x, int child, int cell, int spread, int above, int below) {
        String of = "mean(" + child + ", " + cell + ", " + spread + ", ";
        t.due(of + "0)", x.mean(child, cell, spread, 0), above);
        t.due(of + "1)", x.mean(child, cell, spread, 1), below);
    }

    private static void mean(Check t) {
        HotPennies x = Check.told(ONE);
        dueMean(t, x, 0, 14, 0, 1, 1);
        dueMean(t, x, 0, 14, 1, 1, 1);
        dueMean(t, x, 0, 14, 2, 11, 19);
        dueMean(t, x, 0, 0, 2, 0, 1);
        dueMean(t, x, 0, 16, 1, 1, 6);
        HotPennies hot = Check.told(ONE_HOT);
        dueMean(t, hot, 0, 14, 1, 1, 3);
        dueMean(t, hot, 0, 14, 2, 3, 19);
        dueMean(t, hot, 0, 13, 0, 0, 1);
        HotPennies drained = Check.told("law 0;drain 2 2;child small 2 2 3;");
        dueMean(t, drained, 0, 14, 1, 2, 3);
        dueMean(t, drained, 0, 14, 0, 0, 1);
        HotPennies edge = Check.told("law 0;child small 0 0 3;child small 0 0 3;");
        dueMean(t, edge, 0, 0, 1, 2, 3);
        dueMean(t, edge, 1, 0, 1, 0, 1);
        dueMean(t, edge, 0, 0, 2, 7, 19);
        dueMean(t, edge, 0, 5, 1, 0, 1);
        dueMean(t, edge, 0, 11, 2, 0, 1);
    }

    private static void dueSome(Check t, HotPennies x, int n, int above, int below) {
        t.due("some(0, 14, 1, " + n + ", 0)", x.some(0, 14, 1, n, 0), above);
        t.due("some(0, 14, 1, " + n + ", 1)", x.some(0, 14, 1, n, 1), below);
    }

    /** By one of three ways he picks it. */
    private static void some(Check t) {
        HotPennies hot = Check.told(ONE_HOT);
        dueSome(t, hot, 0, 0, 1);
        dueSome(t, hot, 1, 1, 3);
        dueSome(t, hot, 2, 5, 9);
        dueSome(t, hot, 3, 19, 27);
        dueSome(t, hot, 6, 665, 729);
        t.due("some(0, 14, 2, 6, 0)", hot.some(0, 14, 2, 6, 0), 30268665);
        t.due("some(0, 14, 2, 6, 1)", hot.some(0, 14, 2, 6, 1), 47045881);
        HotPennies x = Check.told(ONE);
        dueSome(t, x, 0, 0, 1);
        dueSome(t, x, 1, 1, 1);
        dueSome(t, x, 6, 1, 1);
        t.due("some(0, 0, 2, 6, 0)", x.some(0, 0, 2, 6, 0), 0);
        t.due("some(0, 0, 2, 6, 1)", x.some(0, 0, 2, 6, 1), 1);
    }

    private static void meanRefused(Check t) {
        HotPennies x = Check.told(TWO);
        int[][] bad = {{-1, 0, 0, 0}, {2, 0, 0, 0}, {0, -1, 0, 0}, {0, 30, 0, 0}, {0, 0, -1, 0}, {0, 0, 3, 0},
            {0, 0, 0, -1}, {0, 0, 0, 2}};
        for (int[] b : bad) {
            t.due("mean of what is not as told", x.mean(b[0], b[1], b[2], b[3]), Check.BAD);
            t.due("some of what is not as told", x.some(b[0], b[1], b[2], 1, b[3]), Check.BAD);
        }
        t.due("some, n -1", x.some(0, 0, 0, -1, 0), Check.BAD);
        t.due("some, n 7", x.some(0, 0, 0, 7, 0), Check.BAD);
        t.due("mean(1, 29, 2, 1)", x.mean(1, 29, 2, 1), 1);
        for (int k = 0; k < 6; k++) {
            t.due("stand of what is not as told", x.stand(bad[k][0], bad[k][1], bad[k][2]), Check.BAD);
            t.due("cool of what is not as told", x.cool(bad[k][0], bad[k][1], bad[k][2]), Check.BAD);
        }
    }

    private static void stand(Check t) {
        HotPennies x = Check.told(ONE);
        t.due("stand(0, 14, 0): the least of five", x.stand(0, 14, 0), 8);
        t.due("stand(0, 14, 1)", x.stand(0, 14, 1), 14);
        t.due("stand(0, 14, 2)", x.stand(0, 14, 2), 14);
        t.due("stand(0, 0, 0)", x.stand(0, 0, 0), 0);
        t.due("stand(0, 29, 0)", x.stand(0, 29, 0), 23);
        HotPennies shy = Check.told("law 0;child shy 0 0 1;");
        t.due("stand of a shy one, spread 1", shy.stand(0, 14, 1), 14);
        t.due("stand of a shy one, spread 0", shy.stand(0, 29, 0), 29);
        HotPennies cold = Check.told("law 20;child small 2 2 3;");
        t.due("stand where he picks nothing", cold.stand(0, 14, 2), 0);
        HotPennies drain = Check.told("law 6;drain 2 2;child big 0 0 2;");
        t.due("stand beside a drain", drain.stand(0, 14, 1), 8);
        HotPennies two = Check.told("law 0;child small 2 2 3;child small 2 2 3;");
        t.due("stand of the first of two", two.stand(0, 14, 0), 14);
        t.due("stand of the second of two: no power is more", two.stand(1, 14, 0), 0);
        t.due("stand of the second, spread 1", two.stand(1, 14, 1), 8);
    }

    private static void dueBrothers(Check t, HotPennies x, int[] ask, int cellOfA, int cellOfB) {
        String of = "brothers(" + ask[0] + ", " + ask[1] + ", " + ask[2] + ", " + ask[3] + ", ";
        t.due(of + "0)", x.brothers(ask[0], ask[1], ask[2], ask[3], 0), cellOfA);
        t.due(of + "1)", x.brothers(ask[0], ask[1], ask[2], ask[3], 1), cellOfB);
    }

    private static void brothers(Check t) {
        HotPennies x = Check.told(TWO);
        dueBrothers(t, x, new int[] {0, 1, 14, 0}, 0, 8);
        dueBrothers(t, x, new int[] {1, 0, 14, 0}, 0, 8);
        dueBrothers(t, x, new int[] {0, 1, 0, 0}, 0, 0);
        dueBrothers(t, x, new int[] {0, 1, 14, 1}, 0, 14);
        HotPennies cold = Check.told("law 20;child small 2 2 3;child small 3 3 3;");
        dueBrothers(t, cold, new int[] {0, 1, 14, 2}, 0, 0);
        HotPennies shy = Check.told("law 0;child shy 0 0 1;child shy 0 0 1;child apron 3 2 1;");
        dueBrothers(t, shy, new int[] {0, 1, 14, 1}, 8, 14);
        dueBrothers(t, shy, new int[] {1, 0, 14, 1}, 8, 14);
        int[][] bad = {{-1, 0, 0, 0, 0}, {3, 0, 0, 0, 0}, {0, -1, 0, 0, 0}, {0, 3, 0, 0, 0}, {1, 1, 0, 0, 0},
            {0, 1, -1, 0, 0}, {0, 1, 30, 0, 0}, {0, 1, 0, -1, 0}, {0, 1, 0, 3, 0}, {0, 1, 0, 0, -1}, {0, 1, 0, 0, 2}};
        for (int[] b : bad) {
            t.due("brothers of what is not as told", shy.brothers(b[0], b[1], b[2], b[3], b[4]), Check.BAD);
        }
    }

    private static void rounds(Check t) {
        HotPennies x = Check.told("law 0;child small 0 0 1;");
        t.due("rounds(14, 0, -1)", x.rounds(14, 0, -1), 2);
        t.due("rounds(14, 0, 0)", x.rounds(14, 0, 0), 8);
        x.run(0, 8);
        t.due("rounds(14, 0, -1), there already", x.rounds(14, 0, -1), 1);
        t.due("rounds(14, 0, 0)", x.rounds(14, 0, 0), 8);
        t.due("rounds(-1, 0, -1)", x.rounds(-1, 0, -1), Check.BAD);
        t.due("rounds(30, 0, -1)", x.rounds(30, 0, -1), Check.BAD);
        t.due("rounds(0, -1, -1)", x.rounds(0, -1, -1), Check.BAD);
        t.due("rounds(0, 3, -1)", x.rounds(0, 3, -1), Check.BAD);
        t.due("rounds(0, 0, -2)", x.rounds(0, 0, -2), Check.BAD);
        t.due("rounds(0, 0, 1)", x.rounds(0, 0, 1), Check.BAD);
        HotPennies two = Check.told("law 0;child small 0 0 1;child small 5 0 1;");
        t.due("rounds(14, 0, -1): they never rest", two.rounds(14, 0, -1), Check.NONE);
        t.due("rounds(14, 0, 1)", two.rounds(14, 0, 1), Check.NONE);
        HotPennies strong = Check.told("law 0;child small 0 0 1;child glove 5 0 9;");
        t.due("rounds(14, 0, -1): the weak one gives in", strong.rounds(14, 0, -1), 3);
        t.due("rounds(14, 0, 0)", strong.rounds(14, 0, 0), 0);
        t.due("rounds(14, 0, 1)", strong.rounds(14, 0, 1), 8);
        HotPennies nobody = Check.told("law 0;");
        t.due("rounds(14, 0, -1) of nobody", nobody.rounds(14, 0, -1), 1);
        t.due("rounds(14, 0, 0) of nobody", nobody.rounds(14, 0, 0), Check.BAD);
    }

    private static void dueReached(Check t, HotPennies x, int spread, int cell, int many) {
        t.due("aim(" + spread + ", 0)", x.aim(spread, 0), cell);
        t.due("aim(" + spread + ", 1)", x.aim(spread, 1), many);
    }

    private static void aim(Check t) {
        HotPennies x = Check.told("law 0;child small 2 2 1;child small 4 2 1;child small 0 4 1;");
        dueReached(t, x, 0, 8, 1);
        dueReached(t, x, 1, 9, 2);
        dueReached(t, x, 2, 20, 3);
        HotPennies cold = Check.told("law 20;child small 2 2 1;");
        dueReached(t, cold, 2, 0, 0);
        dueReached(t, Check.told("law 0;"), 2, 0, 0);
        dueReached(t, Check.told("law 2;child small 2 2 2;child small 2 2 2;child shy 2 2 1;"), 0, 14, 1);
        t.due("aim(-1, 0)", x.aim(-1, 0), Check.BAD);
        t.due("aim(3, 0)", x.aim(3, 0), Check.BAD);
        t.due("aim(0, -1)", x.aim(0, -1), Check.BAD);
        t.due("aim(0, 2)", x.aim(0, 2), Check.BAD);
    }

    private static void dueThrows(Check t, HotPennies x, int spread, int many, int... cells) {
        String of = "throwsFor(" + spread + ", ";
        t.due(of + "-1)", x.throwsFor(spread, -1), many);
        for (int k = 0; k < cells.length; k++) {
            t.due(of + k + ")", x.throwsFor(spread, k), cells[k]);
        }
        t.due(of + cells.length + ")", x.throwsFor(spread, cells.length), Check.NONE);
        t.due(of + "3)", x.throwsFor(spread, 3), Check.NONE);
        t.due(of + "MAX)", x.throwsFor(spread, Integer.MAX_VALUE), Check.NONE);
    }

    private static void throwsFor(Check t) {
        HotPennies x = Check.told("law 0;child small 0 0 1;child small 5 0 1;child small 0 4 1;");
        dueThrows(t, x, 0, 3, 0, 4, 18);
        dueThrows(t, x, 1, 2, 3, 12);
        dueThrows(t, x, 2, 2, 2, 6);
        dueThrows(t, Check.told("law 0;child small 0 0 1;child small 5 0 1;"), 0, 2, 0, 4);
        dueThrows(t, Check.told("law 0;child small 2 2 1;"), 0, 1, 8);
        dueThrows(t, Check.told("law 0;child small 0 0 1;"), 0, 1, 0);
        dueThrows(t, Check.told("law 0;child small 5 4 1;"), 0, 1, 23);
        dueThrows(t, Check.told("law 0;child shy 3 2 1;child shy 2 2 1;"), 0, 2, 14, 15);
        dueThrows(t, Check.told("law 0;child shy 4 2 1;child shy 3 2 1;child shy 2 2 1;"), 0, 3, 14, 15, 16);
        dueThrows(t, Check.told("law 0;child shy 3 4 1;child shy 4 4 1;child shy 5 4 1;"), 0, 3, 27, 28, 29);
        dueThrows(t, Check.told("law 0;"), 0, 0);
        dueThrows(t, Check.told("law 20;child small 2 2 1;"), 2, Check.NONE);
        String corners = "law 0;child small 0 0 1;child small 5 0 1;child small 0 4 1;child small 5 4 1;";
        dueThrows(t, Check.told(corners), 0, Check.NONE);
        dueThrows(t, Check.told(corners), 2, 2, 2, 26);
        t.due("throwsFor(-1, -1)", x.throwsFor(-1, -1), Check.BAD);
        t.due("throwsFor(3, -1)", x.throwsFor(3, -1), Check.BAD);
        t.due("throwsFor(0, -2)", x.throwsFor(0, -2), Check.BAD);
        t.due("throwsFor(0, MIN)", x.throwsFor(0, Integer.MIN_VALUE), Check.BAD);
    }

    private static void cool(Check t) {
        HotPennies x = Check.told("law 20;child small 2 2 3;child big 0 0 9;child glove 5 4 1;child big 0 4 5;"
                + "child shy 5 0 9;");
        t.due("cool(0, 14, 0): twice 3", x.cool(0, 14, 0), 6);
        t.due("cool(0, 14, 2)", x.cool(0, 14, 2), 6);
        t.due("cool(0, 13, 0): once 3", x.cool(0, 13, 0), 3);
        t.due("cool(0, 29, 0): too far", x.cool(0, 29, 0), 0);
        t.due("cool(1, 0, 0): four times 9", x.cool(1, 0, 0), Check.NONE);
        t.due("cool(2, 29, 0): it does not matter", x.cool(2, 29, 0), Check.NONE);
        t.due("cool(3, 24, 0): four times 5", x.cool(3, 24, 0), 20);
        t.due("cool(4, 5, 0): twice 9", x.cool(4, 5, 0), 18);
        t.due("cool(4, 4, 0): shy", x.cool(4, 4, 0), 0);
        t.due("count(3)", x.count(3), 20);
        HotPennies two = Check.told("law 0;child small 2 2 3;child glove 2 2 2;");
        t.due("cool(0, 14, 0): another one picks sooner", two.cool(0, 14, 0), 3);
        t.due("cool(1, 14, 0): the glove at first has none", two.cool(1, 14, 0), 0);
    }

    private static void stood(Check t) {
        HotPennies x = Check.told("law 0;child small 0 0 3;");
        int near = Check.bits(8, 13, 14, 15, 20);
        int all = (1 << 30) - 1;
        Check.tellRow(x, 0, 99, 14, 14, 29, -1);
        t.due("stood, none landed, none had", x.stood(0, 0, 0, 0, 0), all);
        t.due("stood, none landed, one had", x.stood(0, 0, 0, 0, 1), 0);
        t.due("stood, one landed, one had", x.stood(0, 1, 1, 0, 1), near);
        t.due("stood, one landed, none had", x.stood(0, 1, 1, 0, 0), all & ~near);
        t.due("stood, two landed, two had", x.stood(0, 1, 2, 0, 2), near);
        t.due("stood, two landed, one had", x.stood(0, 1, 2, 0, 1), 0);
        t.due("stood, three landed, one had", x.stood(0, 1, 3, 0, 1), Check.bits(23, 28, 29));
        t.due("stood, up to the end, none landed", x.stood(0, 5, 0, 0, 0), all);
        HotPennies two = Check.told("law 0;drain 0 0;child small 2 2 3;child small 2 2 3;");
        Check.tellRow(two, 7, 14, 0);
        t.due("stood of the first of two", two.stood(7, 0, 1, 0, 1), Check.bits(14));
        t.due("stood of the second of two", two.stood(7, 0, 1, 1, 1), 0);
        t.due("stood, a drain", two.stood(7, 1, 1, 0, 1), 0);
        Check.tellRow(x, 1, 0, 0, 0, 0, 0, 0, 0, 0, 0, 0, 0, 0, 0, 0, 0, 0, 0, 0, 0, 0, 0);
        t.due("stood, twenty landed", x.stood(1, 1, 20, 0, 20), Check.bits(0, 1, 6));
        t.due("stood, twenty landed, none had", x.stood(1, 1, 20, 0, 0), all & ~Check.bits(0, 1, 6));
    }

    private static void stoodRefused(Check t) {
        HotPennies x = Check.told("law 0;child small 0 0 3;");
        Check.tellRow(x, 0, 14, 30, 14, -1, 29);
        t.due("stood(-1, ..)", x.stood(-1, 0, 1, 0, 0), Check.BAD);
        t.due("stood(8, ..)", x.stood(8, 0, 1, 0, 0), Check.BAD);
        t.due("stood, n -1", x.stood(0, 0, -1, 0, 0), Check.BAD);
        t.due("stood, n 21: BAD ahead of PLACE", x.stood(0, 0, 21, 0, 0), Check.BAD);
        t.due("stood, n 21: BAD ahead of NULL", x.stood(1, 0, 21, 0, 0), Check.BAD);
        t.due("stood, child -1", x.stood(0, 0, 1, -1, 0), Check.BAD);
        t.due("stood, child 1: BAD ahead of NULL", x.stood(1, 0, 1, 1, 0), Check.BAD);
        t.due("stood, had -1", x.stood(0, 0, 1, 0, -1), Check.BAD);
        t.due("stood, had 21", x.stood(1, 0, 1, 0, 21), Check.BAD);
        t.due("stood(1, ..), missing", x.stood(1, -1, 20, 0, 20), Check.NULL);
        t.due("stood, i -1", x.stood(0, -1, 1, 0, 0), Check.PLACE);
        t.due("stood, i 5", x.stood(0, 5, 1, 0, 0), Check.PLACE);
        t.due("stood, i 6, n 0", x.stood(0, 6, 0, 0, 0), Check.PLACE);
        t.due("stood, i MAX", x.stood(0, Integer.MAX_VALUE, 20, 0, 0), Check.PLACE);
        t.due("stood, beyond the end: PLACE ahead of an item", x.stood(0, 0, 6, 0, 0), Check.PLACE);
        t.due("stood, item 30", x.stood(0, 1, 1, 0, 0), Check.BAD);
        t.due("stood, item -1", x.stood(0, 2, 3, 0, 0), Check.BAD);
        t.due("stood, item 29", x.stood(0, 4, 1, 0, 1), Check.bits(23, 28, 29));
    }

    /** All that is foretold leaves the square, and what can be undone, as it is. */
    private static void nothingChanges(Check t) {
        HotPennies x = Check.told(TWO);
        x.run(0, 1);
        Check.tellRow(x, 0, 14);
        x.mean(0, 14, 2, 0);
        x.some(0, 14, 2, 6, 0);
        x.stand(0, 14, 2);
        x.brothers(0, 1, 14, 2, 0);
        x.rounds(14, 2, -1);
        x.aim(2, 0);
        x.throwsFor(2, -1);
        x.cool(0, 14, 2);
        x.stood(0, 0, 1, 0, 1);
        t.due("child(0, 0)", x.child(0, 0), 1);
        t.due("child(1, 0)", x.child(1, 0), 5);
        t.due("count(3)", x.count(3), 0);
        t.due("count(4)", x.count(4), 1);
        t.due("count(5)", x.count(5), 0);
        t.due("undo()", x.undo(), 0);
        t.due("child(0, 0)", x.child(0, 0), 0);
    }

    /** They rest in round 21, one too many; after one round that they have really gone, in round 20. */
    private static void roundsUpToTheLast(Check t) {
        HotPennies x = Check.told("law 17;drain 1 3;drain 3 1;child big 2 3 9;child glove 1 2 4;child glove 4 0 8;"
                + "child big 1 2 9;child apron 2 0 1;");
        t.due("rounds(8, 2, -1): 21 are too many", x.rounds(8, 2, -1), Check.NONE);
        t.due("rounds(8, 2, 4)", x.rounds(8, 2, 4), Check.NONE);
        goOneRound(x, 8, 2);
        t.due("rounds(8, 2, -1): 20", x.rounds(8, 2, -1), 20);
        int[] foretold = new int[5];
        for (int c = 0; c < 5; c++) {
            foretold[c] = x.rounds(8, 2, c);
        }
        for (int left = 19; left >= 1; left--) {
            goOneRound(x, 8, 2);
            t.due("rounds(8, 2, -1)", x.rounds(8, 2, -1), left);
        }
        for (int c = 0; c < 5; c++) {
            t.due("child(" + c + ", 0)", x.child(c, 0), foretold[c]);
        }
    }

    private static void goOneRound(HotPennies x, int cell, int spread) {
        for (int c = 0; c < x.count(1); c++) {
            x.run(c, x.stand(c, cell, spread));
        }
    }
}
