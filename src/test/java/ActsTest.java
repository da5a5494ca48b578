/** Promises 9 to 12: toss, run, corner, undo. */
public final class ActsTest {
    /** Five who pick only what lands where they stand: a cell and its four neighbours. */
    private static final String CROSS = "law 1;child small 2 1 1;child small 1 2 1;child small 2 2 1;"
            + "child small 3 2 1;child small 2 3 1;";

    public static void main(String[] args) {
        Check t = new Check("ActsTest");
        tossRefused(t);
        draws(t);
        waysInOrder(t);
        lostPennies(t);
        mostPenniesOfAToss(t);
        run(t);
        corner(t);
        cornerMightBeTooMuch(t);
        undo(t);
        oldestIsForgotten(t);
        t.end();
    }

    private static void tossRefused(Check t) {
        HotPennies x = Check.told(CROSS);
        t.due("toss(-1, ..)", x.toss(-1, 1, 1, 1), Check.BAD);
        t.due("toss(30, ..)", x.toss(30, 1, 1, 1), Check.BAD);
        t.due("toss, spread -1", x.toss(14, -1, 1, 1), Check.BAD);
        t.due("toss, spread 3", x.toss(14, 3, 1, 1), Check.BAD);
        t.due("toss, n 0", x.toss(14, 1, 0, 1), Check.BAD);
        t.due("toss, n 21", x.toss(14, 1, 21, 1), Check.BAD);
        t.due("toss, n -1", x.toss(14, 1, -1, 1), Check.BAD);
        t.due("toss, seed 0", x.toss(14, 1, 1, 0), Check.BAD);
        t.due("toss, seed -1", x.toss(14, 1, 1, -1), Check.BAD);
        t.due("toss, seed 1000000", x.toss(14, 1, 1, 1000000), Check.BAD);
        t.due("count(4), all refused", x.count(4), 0);
        t.due("toss, seed 999999, n 20", x.toss(14, 0, 20, 999999), 20);
        t.due("toss, cell 0", x.toss(0, 0, 1, 1), 0);
        t.due("toss, cell 29", x.toss(29, 0, 1, 1), 0);
        t.due("count(4)", x.count(4), 3);
    }

    private static void duePennies(Check t, HotPennies x, int... pennies) {
        for (int c = 0; c < pennies.length; c++) {
            t.due("child(" + c + ", 2)", x.child(c, 2), pennies[c]);
        }
    }

    /** The draws of seed 1 are 16807, 282475249, 1622650073, 984943658: ways 1, 1, 5, 2 of six. */
    private static void draws(Check t) {
        HotPennies x = Check.told(CROSS);
        t.due("toss(14, 1, 1, 1)", x.toss(14, 1, 1, 1), 1);
        duePennies(t, x, 0, 1, 0, 0, 0);
        t.due("toss(14, 1, 4, 1)", x.toss(14, 1, 4, 1), 4);
        duePennies(t, x, 0, 3, 1, 0, 1);
        t.due("count(5)", x.count(5), 5);
        t.due("toss(14, 2, 1, 1): way 11 of 19", x.toss(14, 2, 1, 1), 1);
        duePennies(t, x, 0, 3, 1, 1, 1);
        t.due("toss(14, 0, 20, 7)", x.toss(14, 0, 20, 7), 20);
        duePennies(t, x, 0, 3, 21, 1, 1);
    }

    /** The first draw of seed s is 16807 s (below the modulus while s is small). */
    private static void waysInOrder(Check t) {
        int[] one = {8, 13, 14, 14, 15, 20};
        int[] two = {2, 7, 8, 8, 9, 12, 13, 13, 14, 14, 14, 15, 15, 16, 19, 20, 20, 21, 26};
        HotPennies x = Check.told("law 1;child small 0 0 1;");
        for (int seed = 1; seed <= 20; seed++) {
            x.run(0, one[16807 * seed % 6]);
            t.due("toss(14, 1, 1, " + seed + ")", x.toss(14, 1, 1, seed), 1);
            x.run(0, two[16807 * seed % 19]);
            t.due("toss(14, 2, 1, " + seed + ")", x.toss(14, 2, 1, seed), 1);
        }
        t.due("child(0, 2)", x.child(0, 2), 40);
    }

    private static void lostPennies(Check t) {
        HotPennies x = Check.told("law 1;drain 1 2;drain 2 2;child small 2 1 1;child small 1 2 1;child small 2 2 1;");
        t.due("toss at a drain", x.toss(14, 0, 20, 3), 0);
        t.due("toss at a drain's neighbours: ways 1, 1, 5, 2", x.toss(14, 1, 4, 1), 0);
        t.due("count(4)", x.count(4), 2);
        t.due("count(5)", x.count(5), 0);
        HotPennies y = Check.told("law 1;child small 0 0 1;child small 1 0 1;");
        t.due("toss at the edge: ways 1, 1 are beyond", y.toss(0, 1, 2, 1), 0);
        t.due("toss at the edge: ways 1, 1, 5, 2", y.toss(0, 1, 4, 1), 1);
        duePennies(t, y, 1, 0);
        t.due("toss beside an end of a line: ways 1, 1 are beyond", y.toss(6, 1, 2, 1), 0);
        t.due("toss where nobody picks", y.toss(29, 0, 20, 1), 0);
        t.due("toss where there is nobody", Check.told("law 0;").toss(14, 2, 20, 1), 0);
    }

    private static void mostPenniesOfAToss(Check t) {
        HotPennies x = Check.told("law0;child glove 2 2 1;");
        for (int k = 0; k < 499; k++) {
            x.toss(14, 0, 20, 1);
        }
        t.due("child(0, 2)", x.child(0, 2), 9980);
        t.due("toss of 20 more", x.toss(14, 0, 20, 1), Check.FULL);
        t.due("toss of 20 more, of which he picks none", x.toss(29, 0, 20, 1), Check.FULL);
        t.due("toss of 21: BAD ahead of FULL", x.toss(14, 0, 21, 1), Check.BAD);
        t.due("toss of 19 more", x.toss(14, 0, 19, 1), 19);
        t.due("child(0, 2)", x.child(0, 2), 9999);
        t.due("toss of one more", x.toss(29, 0, 1, 1), Check.FULL);
        t.due("count(4)", x.count(4), 24);
    }

    private static void run(Check t) {
        HotPennies x = Check.told(CROSS);
        t.due("run(-1, 0)", x.run(-1, 0), Check.BAD);
        t.due("run(5, 0)", x.run(5, 0), Check.BAD);
        t.due("run(0, -1)", x.run(0, -1), Check.BAD);
        t.due("run(0, 30)", x.run(0, 30), Check.BAD);
        t.due("count(4)", x.count(4), 0);
        t.due("run(0, 0)", x.run(0, 0), 3);
        t.due("child(0, 0)", x.child(0, 0), 0);
        t.due("run(0, 29)", x.run(0, 29), 9);
        t.due("run(0, 29), there already", x.run(0, 29), 0);
        t.due("run(0, 24)", x.run(0, 24), 5);
        t.due("run(0, 5)", x.run(0, 5), 9);
        t.due("run(0, 6)", x.run(0, 6), 6);
        t.due("run(4, 6) where another one is", x.run(4, 6), 4);
        t.due("child(0, 0)", x.child(0, 0), 6);
        t.due("child(1, 0)", x.child(1, 0), 13);
        t.due("child(4, 0)", x.child(4, 0), 6);
        t.due("count(4)", x.count(4), 7);
    }

    private static void corner(Check t) {
        HotPennies x = Check.told("law 0;child small 2 2 3;child big 0 0 2;child apron 5 0 4;child shy 0 4 4;");
        t.due("corner(0, 0), alike", x.corner(0, 0), Check.BAD);
        t.due("corner(-1, 0)", x.corner(-1, 0), Check.BAD);
        t.due("corner(0, -1)", x.corner(0, -1), Check.BAD);
        t.due("corner(4, 0)", x.corner(4, 0), Check.BAD);
        t.due("corner(0, 4)", x.corner(0, 4), Check.BAD);
        t.due("corner(0, 1): 3 and twice 2", x.corner(0, 1), Check.STATE);
        t.due("corner(1, 2): twice 2 and 4", x.corner(1, 2), Check.STATE);
        t.due("corner(2, 1): 4 and twice 2", x.corner(2, 1), Check.STATE);
        t.due("corner(2, 3): 4 and 4", x.corner(2, 3), Check.STATE);
        t.due("count(4)", x.count(4), 0);
        x.toss(14, 0, 7, 1);
        t.due("corner(1, 0): half of 7", x.corner(1, 0), 3);
        duePennies(t, x, 4, 3, 0, 0);
        t.due("corner(2, 0): half of 4", x.corner(2, 0), 2);
        t.due("corner(3, 0): half of 2", x.corner(3, 0), 1);
        t.due("corner(3, 0): half of 1", x.corner(3, 0), 0);
        duePennies(t, x, 1, 3, 2, 1);
        t.due("count(4): also where nothing is taken", x.count(4), 5);
        t.due("count(5)", x.count(5), 7);
    }

    /** The taker has 9960; the other one 79, or 80. */
    private static void cornerMightBeTooMuch(Check t) {
        for (int more = 19; more <= 20; more++) {
            HotPennies x = Check.told("law0;child glove 2 2 9;child glove 0 0 1;");
            for (int k = 0; k < 498; k++) {
                x.toss(14, 0, 20, 1);
            }
            for (int k = 0; k < 3; k++) {
                x.toss(0, 0, 20, 1);
            }
            x.toss(0, 0, more, 1);
            t.due("corner, " + (60 + more), x.corner(0, 1), more == 19 ? 39 : Check.FULL);
            t.due("child(0, 2)", x.child(0, 2), more == 19 ? 9999 : 9960);
            t.due("child(1, 2)", x.child(1, 2), more == 19 ? 40 : 80);
        }
    }

    private static void undo(Check t) {
        HotPennies x = Check.told("law 0;child small 2 2 3;child big 0 0 2;");
        t.due("undo() before an act", x.undo(), Check.STATE);
        x.toss(14, 0, 7, 1);
        x.corner(1, 0);
        x.run(0, 20);
        x.run(0, 20);
        t.due("count(4)", x.count(4), 4);
        t.due("undo() of a run to where one is", x.undo(), 3);
        t.due("child(0, 0)", x.child(0, 0), 20);
        t.due("undo() of a run", x.undo(), 2);
        t.due("child(0, 0)", x.child(0, 0), 14);
        duePennies(t, x, 4, 3);
        t.due("undo() of a corner", x.undo(), 1);
        duePennies(t, x, 7, 0);
        t.due("undo() of a throw", x.undo(), 0);
        duePennies(t, x, 0, 0);
        t.due("undo() of no more", x.undo(), Check.STATE);
        t.due("run after undo", x.run(1, 1), 1);
        t.due("undo()", x.undo(), 0);
        t.due("child(1, 0)", x.child(1, 0), 0);
    }

    private static void oldestIsForgotten(Check t) {
        HotPennies x = Check.told("law 0;child small 0 0 3;");
        for (int cell = 1; cell <= 24; cell++) {
            x.run(0, cell);
            t.due("count(4)", x.count(4), cell);
        }
        for (int cell = 25; cell <= 29; cell++) {
            x.run(0, cell);
            t.due("count(4), no more than 24", x.count(4), 24);
        }
        for (int left = 23; left >= 0; left--) {
            t.due("undo()", x.undo(), left);
            t.due("child(0, 0)", x.child(0, 0), left + 5);
        }
        t.due("undo() of what is forgotten", x.undo(), Check.STATE);
        t.due("child(0, 0)", x.child(0, 0), 5);
    }
}
