/**
 * The boundaries of what is foretold: section 3 of the terms, promises 16 to 24.
 *
 * <p>Above each test stands the sentence that it holds. A shy one picks what lands in his own cell alone, and
 * so tells how many ways lead there.
 */
public final class ForetoldBoundsTest {
    private static final int ALL = (1 << 30) - 1;
    private static final String SHY = "law 0;child shy 2 2 1;";

    private static final Check T = new Check("ForetoldBoundsTest");

    public static void main(String[] args) {
        meanInLowestTerms();
        meanOfNoneIsNoughtByOne();
        someOfNoPennies();
        someOfUpToSix();
        someInLowestTerms();
        standInTheLeastOfSeveral();
        standInTheFirstAndTheLastCell();
        standWhereHePicksNothing();
        standBesideADrain();
        standAmongOthers();
        brothersInTheLeastCells();
        brothersOneToldFirst();
        brothersWhoPickNothing();
        brothersOfThoseWhoAreThere();
        roundsThatOneCounts();
        roundsOneAfterAnother();
        roundsTwentyAtMost();
        roundsThatNeverEnd();
        roundsOfNobody();
        aimAtTheLeastOfSeveral();
        aimAtTheFirstAndTheLastCell();
        aimWhereNobodyHasAny();
        throwsThreeAtMost();
        throwsTheFewest();
        throwsTheFirstRow();
        throwsOfNobody();
        throwsNotSoMany();
        coolFromNoughtToTwenty();
        coolWhoeverElsePicks();
        stoodNoughtToTwenty();
        stoodItemsThatAreCells();
        stoodItemsFromIOn();
        stoodWithDrainsAndHeat();
        stoodInALaneOfAnyKind();
        T.end();
    }

    private static void dueMean(HotPennies x, int cell, int spread, int above, int below) {
        String of = "mean(0, " + cell + ", " + spread + ", ";
        T.due(of + "0)", x.mean(0, cell, spread, 0), above);
        T.due(of + "1)", x.mean(0, cell, spread, 1), below);
    }

    private static void dueSome(HotPennies x, int cell, int spread, int n, int above, int below) {
        String of = "some(0, " + cell + ", " + spread + ", " + n + ", ";
        T.due(of + "0)", x.some(0, cell, spread, n, 0), above);
        T.due(of + "1)", x.some(0, cell, spread, n, 1), below);
    }

    /** "fractions, told as two numbers in lowest terms": of six ways none to all, of nineteen, of one. */
    private static void meanInLowestTerms() {
        String[] drains = {"", "drain 2 1;", "drain 2 1;drain 1 2;", "drain 2 1;drain 1 2;drain 3 2;",
            "drain 2 1;drain 1 2;drain 3 2;drain 2 3;", "drain 2 1;drain 1 2;drain 3 2;drain 2 3;drain 2 2;"};
        int[][] ofSix = {{1, 1}, {5, 6}, {2, 3}, {1, 2}, {1, 3}, {0, 1}};
        for (int k = 0; k < drains.length; k++) {
            HotPennies x = Check.told("law 0;" + drains[k] + "child glove 2 2 1;");
            dueMean(x, 14, 1, ofSix[k][0], ofSix[k][1]);
        }
        dueMean(Check.told("law 0;drain 2 2;child glove 2 2 1;"), 14, 1, 2, 3);
        dueMean(Check.told("law 0;drain 2 2;drain 1 2;child glove 2 2 1;"), 14, 1, 1, 2);
        dueMean(Check.told("law 0;drain 2 2;drain 1 2;drain 3 2;child glove 2 2 1;"), 14, 1, 1, 3);
        dueMean(Check.told("law 0;drain 2 2;drain 1 2;drain 3 2;drain 2 1;child glove 2 2 1;"), 14, 1, 1, 6);
        HotPennies x = Check.told("law 0;child apron 2 2 1;");
        dueMean(x, 14, 0, 1, 1);
        dueMean(x, 14, 1, 1, 1);
        dueMean(x, 14, 2, 1, 1);
        dueMean(x, 15, 2, 14, 19);
        dueMean(x, 17, 2, 3, 19);
    }

    /** "(0 is 0 by 1)": by each spread. */
    private static void meanOfNoneIsNoughtByOne() {
        HotPennies far = Check.told("law 0;child shy 0 0 1;");
        HotPennies cold = Check.told("law 20;child small 2 2 1;");
        HotPennies second = Check.told("law 0;child glove 2 2 2;child glove 2 2 1;");
        for (int spread = 0; spread <= 2; spread++) {
            dueMean(far, 29, spread, 0, 1);
            dueMean(cold, 14, spread, 0, 1);
            T.due("mean of one who is never the first", second.mean(1, 14, spread, 0), 0);
            T.due("mean of one who is never the first", second.mean(1, 14, spread, 1), 1);
            for (int n = 0; n <= 6; n++) {
                dueSome(far, 29, spread, n, 0, 1);
            }
        }
    }

    /** "at least of n (0 to 6)": of none he picks none, whoever he is. */
    private static void someOfNoPennies() {
        HotPennies x = Check.told("law 0;child apron 2 2 1;");
        for (int spread = 0; spread <= 2; spread++) {
            dueSome(x, 14, spread, 0, 0, 1);
            dueSome(x, 15, spread, 0, 0, 1);
            dueSome(x, 29, spread, 0, 0, 1);
        }
    }

    /** "how likely it is that he PICKS one at least of n (0 to 6): a fraction." */
    private static void someOfUpToSix() {
        HotPennies x = Check.told(SHY);
        int[] without = {1, 5, 25, 125, 625, 3125, 15625};
        int[] all = {1, 6, 36, 216, 1296, 7776, 46656};
        for (int n = 1; n <= 6; n++) {
            dueSome(x, 13, 1, n, all[n] - without[n], all[n]);
            dueSome(x, 14, 0, n, 1, 1);
        }
        int[] ofNineteen = {0, 1, 37, 1027, 25345, 586531, 13033657};
        int[] nineteen = {1, 19, 361, 6859, 130321, 2476099, 47045881};
        for (int n = 1; n <= 6; n++) {
            dueSome(x, 12, 2, n, ofNineteen[n], nineteen[n]);
        }
        dueSome(x, 14, 2, 6, 47045881 - 16777216, 47045881);
        dueSome(x, 13, 2, 6, 47045881 - 24137569, 47045881);
        HotPennies allButOne = Check.told("law 0;drain 0 2;child apron 2 2 1;");
        dueSome(allButOne, 14, 2, 6, 47045880, 47045881);
    }

    /** "a fraction", "in lowest terms": by a third, a half, two thirds, all. */
    private static void someInLowestTerms() {
        HotPennies third = Check.told(SHY);
        int[] ofThree = {0, 1, 5, 19, 65, 211, 665};
        int[] three = {1, 3, 9, 27, 81, 243, 729};
        HotPennies half = Check.told("law 0;drain 2 1;drain 1 2;drain 3 2;child glove 2 2 1;");
        int[] ofTwo = {0, 1, 3, 7, 15, 31, 63};
        HotPennies thirds = Check.told("law 0;drain 2 2;child glove 2 2 1;");
        int[] ofThirds = {0, 2, 8, 26, 80, 242, 728};
        for (int n = 1; n <= 6; n++) {
            dueSome(third, 14, 1, n, ofThree[n], three[n]);
            dueSome(half, 14, 1, n, ofTwo[n], 1 << n);
            dueSome(thirds, 14, 1, n, ofThirds[n], three[n]);
        }
    }

    /** "STAND ..: the CELL in which he would have the greatest MEAN, of several the least" */
    private static void standInTheLeastOfSeveral() {
        HotPennies x = Check.told("law 0;child glove 5 4 1;");
        HotPennies wide = Check.told("law 0;child apron 5 4 1;");
        for (int cell = 0; cell < 30; cell++) {
            int up = cell >= 6 ? cell - 6 : cell % 6 > 0 ? cell - 1 : cell;
            T.due("stand(0, " + cell + ", 0) with gloves", x.stand(0, cell, 0), up);
            int far = cell >= 12 ? cell - 12 : cell >= 6 ? cell % 6 > 0 ? cell - 7 : cell - 6 : Math.max(cell - 2, 0);
            T.due("stand(0, " + cell + ", 0) with an apron", wide.stand(0, cell, 0), far);
        }
        T.due("stand(0, 14, 1): the greatest", x.stand(0, 14, 1), 14);
        T.due("stand(0, 14, 1) with an apron: where he reaches all", wide.stand(0, 14, 1), 8);
        T.due("stand(0, 0, 1) with an apron", wide.stand(0, 0, 1), 0);
        T.due("stand(0, 29, 1) with an apron", wide.stand(0, 29, 1), 22);
        T.due("stand(0, 29, 2) with gloves: 7 ways from 23, 28, 29", x.stand(0, 29, 2), 23);
    }

    /** "the CELL in which": from the first to the last, for one who has to stand there. */
    private static void standInTheFirstAndTheLastCell() {
        for (int from : new int[] {0, 29}) {
            HotPennies x = Check.told("law 1;child shy " + from % 6 + " " + from / 6 + " 9;");
            for (int spread = 0; spread <= 2; spread++) {
                for (int cell = 0; cell < 30; cell++) {
                    T.due("stand(0, " + cell + ", " + spread + ")", x.stand(0, cell, spread), cell);
                }
            }
            T.due("child(0, 0)", x.child(0, 0), from);
        }
    }

    /** "of several the least": all are alike, if he picks nothing wherever he stands. */
    private static void standWhereHePicksNothing() {
        HotPennies cold = Check.told("law 20;child small 5 4 9;child big 3 3 5;child shy 4 4 9;child glove 2 2 1;");
        for (int c = 0; c < 3; c++) {
            for (int cell : new int[] {0, 14, 29}) {
                T.due("stand(" + c + ", " + cell + ", 2)", cold.stand(c, cell, 2), 0);
            }
        }
        HotPennies drain = Check.told("law 0;drain 5 4;child glove 5 4 9;");
        T.due("stand at a drain", drain.stand(0, 29, 0), 0);
    }

    /** A shy one stands in the least of the cells beside, if there is a drain. */
    private static void standBesideADrain() {
        for (int cell = 0; cell < 30; cell++) {
            HotPennies x = Check.told("law 0;drain " + cell % 6 + " " + cell / 6 + ";child shy 3 3 1;");
            int due = cell >= 6 ? cell - 6 : cell % 6 > 0 ? cell - 1 : cell + 1;
            T.due("stand(0, " + cell + ", 1) by a drain", x.stand(0, cell, 1), due);
            T.due("stand(0, " + cell + ", 0) by a drain", x.stand(0, cell, 0), 0);
        }
    }

    /** "the greatest MEAN": all others as they are; of two of one POWER the first picks. */
    private static void standAmongOthers() {
        HotPennies x = Check.told("law 0;child shy 2 2 1;child shy 2 2 1;child shy 2 1 2;");
        T.due("stand(0, 14, 0)", x.stand(0, 14, 0), 14);
        T.due("stand(1, 14, 0): the first one picks", x.stand(1, 14, 0), 0);
        T.due("stand(1, 14, 1): the cell above has a stronger one", x.stand(1, 14, 1), 13);
        T.due("stand(2, 14, 0): he is stronger", x.stand(2, 14, 0), 14);
        T.due("stand(0, 8, 0): the stronger one picks", x.stand(0, 8, 0), 0);
    }

    private static void dueBrothers(HotPennies x, int a, int b, int cell, int spread, int cellOfA, int cellOfB) {
        String of = "brothers(" + a + ", " + b + ", " + cell + ", " + spread + ", ";
        T.due(of + "0)", x.brothers(a, b, cell, spread, 0), cellOfA);
        T.due(of + "1)", x.brothers(a, b, cell, spread, 1), cellOfB);
    }

    /** "both their MEANS .. greatest, of several that of the one told first is least, then the other one's" */
    private static void brothersInTheLeastCells() {
        HotPennies x = Check.told("law 0;child shy 5 4 1;child shy 5 4 1;");
        for (int cell = 0; cell < 30; cell++) {
            dueBrothers(x, 0, 1, cell, 0, 0, cell);
            int up = cell >= 6 ? cell - 6 : cell % 6 > 0 ? cell - 1 : cell;
            dueBrothers(x, 0, 1, cell, 1, up, cell == 0 ? 1 : cell);
        }
        HotPennies y = Check.told("law 0;drain 2 2;child shy 5 4 1;child shy 5 4 1;");
        dueBrothers(y, 0, 1, 14, 1, 8, 13);
        dueBrothers(y, 1, 0, 14, 1, 8, 13);
    }

    /** "that of the one told first": a, whichever child it is. */
    private static void brothersOneToldFirst() {
        HotPennies x = Check.told("law 0;child shy 5 4 1;child shy 5 4 9;child shy 3 3 1;");
        for (int a = 0; a < 3; a++) {
            for (int b = 0; b < 3; b++) {
                if (a != b) {
                    dueBrothers(x, a, b, 14, 0, 0, 14);
                    dueBrothers(x, a, b, 14, 1, 8, 14);
                }
            }
        }
        HotPennies two = Check.told("law 0;child glove 5 4 1;child shy 5 4 1;");
        dueBrothers(two, 0, 1, 14, 0, 0, 14);
        dueBrothers(two, 1, 0, 14, 0, 0, 8);
    }

    /** "of several ..": all cells are alike, if they pick nothing. */
    private static void brothersWhoPickNothing() {
        HotPennies cold = Check.told("law 20;child small 5 4 9;child shy 4 4 9;child big 3 3 5;");
        dueBrothers(cold, 0, 1, 29, 2, 0, 0);
        dueBrothers(cold, 2, 0, 14, 2, 0, 0);
        HotPennies one = Check.told("law 20;child small 5 4 9;child glove 4 4 9;");
        dueBrothers(one, 0, 1, 14, 1, 0, 14);
        dueBrothers(one, 1, 0, 14, 1, 14, 0);
        HotPennies drain = Check.told("law 0;drain 5 4;child glove 5 4 9;child shy 5 4 9;");
        dueBrothers(drain, 0, 1, 29, 0, 0, 0);
    }

    /** "CELLS of two of them": all others as they are. */
    private static void brothersOfThoseWhoAreThere() {
        HotPennies x = Check.told("law 0;child shy 1 2 1;child shy 2 1 2;child shy 5 4 1;child shy 5 4 1;");
        dueBrothers(x, 2, 3, 14, 1, 14, 15);
        dueBrothers(x, 3, 2, 14, 1, 14, 15);
        dueBrothers(x, 0, 2, 14, 1, 13, 14);
        dueBrothers(x, 2, 0, 14, 1, 13, 14);
        dueBrothers(x, 1, 3, 14, 1, 8, 14);
        HotPennies y = Check.told("law 0;child shy 5 4 1;child shy 2 1 2;child shy 5 4 1;child shy 1 2 1;");
        dueBrothers(y, 0, 2, 14, 1, 13, 14);
        dueBrothers(y, 2, 0, 14, 1, 13, 14);
        T.due("child(0, 0)", y.child(0, 0), 29);
        T.due("child(1, 0)", y.child(1, 0), 8);
    }

    /** "till in a round nobody's CELL is another one: how many (that one, too ..)" */
    private static void roundsThatOneCounts() {
        HotPennies x = Check.told("law 0;child shy 2 2 1;");
        for (int cell = 0; cell < 30; cell++) {
            T.due("rounds(" + cell + ", 1, -1)", x.rounds(cell, 1, -1), cell == 14 ? 1 : 2);
            T.due("rounds(" + cell + ", 1, 0)", x.rounds(cell, 1, 0), cell);
        }
        T.due("child(0, 0)", x.child(0, 0), 14);
    }

    /** "CHILDREN 0 on go where their STAND is, one after another, round by round": each sees where those ahead went. */
    private static void roundsOneAfterAnother() {
        HotPennies x = Check.told("law 0;child shy 5 4 1;child shy 5 4 1;child shy 5 4 1;");
        T.due("rounds(14, 1, -1)", x.rounds(14, 1, -1), 2);
        T.due("rounds(14, 1, 0)", x.rounds(14, 1, 0), 14);
        T.due("rounds(14, 1, 1)", x.rounds(14, 1, 1), 8);
        T.due("rounds(14, 1, 2)", x.rounds(14, 1, 2), 13);
        HotPennies y = Check.told("law 0;child shy 5 4 1;child shy 5 4 2;");
        T.due("rounds(14, 1, -1): the second one drives the first one off", y.rounds(14, 1, -1), 3);
        T.due("rounds(14, 1, 0)", y.rounds(14, 1, 0), 8);
        T.due("rounds(14, 1, 1)", y.rounds(14, 1, 1), 14);
    }

    private static final String TWENTY_ONE = "law 17;drain 1 3;drain 3 1;child big 2 3 9;child glove 1 2 4;"
            + "child glove 4 0 8;child big 1 2 9;child apron 2 0 1;";

    /** "20 at most", "NONE: more": 21 are more; a round that they have gone ahead leaves 20. */
    private static void roundsTwentyAtMost() {
        HotPennies x = Check.told(TWENTY_ONE);
        for (int child = -1; child <= 4; child++) {
            T.due("rounds(8, 2, " + child + ") of 21", x.rounds(8, 2, child), Check.NONE);
        }
        for (int c = 0; c < 5; c++) {
            x.run(c, x.stand(c, 8, 2));
        }
        T.due("rounds(8, 2, -1) of 20", x.rounds(8, 2, -1), 20);
        for (int c = 0; c < 5; c++) {
            T.due("rounds(8, 2, " + c + ") is a cell", x.rounds(8, 2, c) >= 0 ? 1 : 0, 1);
            x.run(c, x.stand(c, 8, 2));
        }
        T.due("rounds(8, 2, -1) of 19", x.rounds(8, 2, -1), 19);
    }

    /** "NONE: more": they go round and round. */
    private static void roundsThatNeverEnd() {
        HotPennies x = Check.told("law 0;child glove 0 0 1;child glove 5 0 1;");
        for (int child = -1; child <= 1; child++) {
            T.due("rounds(14, 0, " + child + ")", x.rounds(14, 0, child), Check.NONE);
        }
        T.due("rounds(14, 0, 2)", x.rounds(14, 0, 2), Check.BAD);
        T.due("child(0, 0)", x.child(0, 0), 0);
        T.due("child(1, 0)", x.child(1, 0), 5);
    }

    /** With no children nobody's cell is another one in the first round. */
    private static void roundsOfNobody() {
        HotPennies x = Check.told("law 0;drain 1 1;");
        T.due("rounds(0, 2, -1)", x.rounds(0, 2, -1), 1);
        T.due("rounds(0, 2, 0)", x.rounds(0, 2, 0), Check.BAD);
    }

    private static void dueAim(HotPennies x, int spread, int cell, int many) {
        T.due("aim(" + spread + ", 0)", x.aim(spread, 0), cell);
        T.due("aim(" + spread + ", 1)", x.aim(spread, 1), many);
    }

    /** "the CELL at which most CHILDREN have a MEAN above 0, of several the least; how many" */
    private static void aimAtTheLeastOfSeveral() {
        HotPennies x = Check.told("law 0;child shy 2 2 1;child shy 3 2 1;child shy 4 2 1;");
        dueAim(x, 0, 14, 1);
        dueAim(x, 1, 15, 3);
        dueAim(x, 2, 9, 3);
        HotPennies two = Check.told("law 0;child shy 2 2 1;child shy 4 2 1;");
        dueAim(two, 0, 14, 1);
        dueAim(two, 1, 15, 2);
        dueAim(two, 2, 9, 2);
        HotPennies all = Check.told("law 0;child shy 2 2 1;child shy 2 1 1;child shy 1 2 1;child shy 3 2 1;"
                + "child shy 2 3 1;");
        dueAim(all, 0, 8, 1);
        dueAim(all, 1, 14, 5);
        dueAim(all, 2, 8, 5);
        HotPennies alike = Check.told("law 0;" + "child shy 2 2 1;".repeat(5));
        dueAim(alike, 0, 14, 1);
        dueAim(alike, 1, 8, 1);
        dueAim(alike, 2, 2, 1);
    }

    /** "the CELL": from the first to the last. */
    private static void aimAtTheFirstAndTheLastCell() {
        for (int cell = 0; cell < 30; cell++) {
            HotPennies x = Check.told("law 0;child shy " + cell % 6 + " " + cell / 6 + " 1;");
            dueAim(x, 0, cell, 1);
            dueAim(x, 1, cell >= 6 ? cell - 6 : cell % 6 > 0 ? cell - 1 : cell, 1);
        }
    }

    /** "of several the least; how many": none, where nobody has any, and where there is nobody. */
    private static void aimWhereNobodyHasAny() {
        for (int spread = 0; spread <= 2; spread++) {
            dueAim(Check.told("law 20;child small 5 4 9;child big 2 2 5;"), spread, 0, 0);
            dueAim(Check.told("law 0;"), spread, 0, 0);
            dueAim(Check.told("law 0;drain 5 4;child shy 5 4 9;"), spread, 0, 0);
        }
    }

    private static void dueThrows(HotPennies x, int spread, int many, int... cells) {
        String of = "throwsFor(" + spread + ", ";
        T.due(of + "-1)", x.throwsFor(spread, -1), many);
        for (int k = 0; k < 5; k++) {
            T.due(of + k + ")", x.throwsFor(spread, k), k < cells.length ? cells[k] : Check.NONE);
        }
    }

    /** "the fewest CELLS (3 at most) to throw at .. NONE": three are good, four are more. */
    private static void throwsThreeAtMost() {
        String three = "law 0;child shy 5 4 1;child shy 0 0 1;child shy 3 2 1;";
        dueThrows(Check.told(three), 0, 3, 0, 15, 29);
        dueThrows(Check.told(three + "child shy 5 0 1;"), 0, Check.NONE);
        dueThrows(Check.told(three + "child shy 4 2 1;"), 1, 3, 0, 15, 23);
        dueThrows(Check.told(three + "child shy 4 2 1;"), 0, Check.NONE);
        dueThrows(Check.told("law 0;child shy 5 4 1;child shy 3 4 1;child shy 4 4 1;"), 0, 3, 27, 28, 29);
        dueThrows(Check.told("law 0;child shy 0 0 1;child shy 1 0 1;child shy 2 0 1;"), 0, 3, 0, 1, 2);
        dueThrows(Check.told("law 20;child glove 2 2 1;child small 2 2 9;"), 2, Check.NONE);
        dueThrows(Check.told("law 0;child glove 2 2 2;child glove 2 2 1;"), 2, Check.NONE);
    }

    /** "the fewest": one ahead of two, two ahead of three, wherever they are. */
    private static void throwsTheFewest() {
        dueThrows(Check.told("law 0;child shy 3 4 1;child shy 4 4 1;child shy 5 4 1;"), 1, 1, 28);
        dueThrows(Check.told("law 0;child shy 3 4 1;child shy 4 4 1;child shy 5 4 1;"), 2, 1, 22);
        dueThrows(Check.told("law 0;child shy 0 0 1;child shy 4 4 1;child shy 5 4 1;"), 1, 2, 0, 28);
        dueThrows(Check.told("law 0;child shy 5 0 1;child shy 1 4 1;child shy 3 4 1;"), 1, 2, 4, 26);
        for (int cell = 0; cell < 30; cell++) {
            HotPennies x = Check.told("law 0;child shy " + cell % 6 + " " + cell / 6 + " 1;");
            dueThrows(x, 0, 1, cell);
        }
        dueThrows(Check.told("law 0;child shy 4 4 1;child shy 5 4 1;"), 0, 2, 28, 29);
    }

    /** "which, of several the first row" */
    private static void throwsTheFirstRow() {
        dueThrows(Check.told("law 0;child glove 2 2 1;child glove 5 4 1;"), 0, 2, 8, 23);
        dueThrows(Check.told("law 0;child shy 2 2 1;child shy 5 4 1;"), 1, 2, 8, 23);
        dueThrows(Check.told("law 0;child shy 5 4 1;child shy 0 4 1;"), 1, 2, 18, 23);
        dueThrows(Check.told("law 0;child shy 0 0 1;child shy 5 4 1;child shy 2 2 1;"), 1, 3, 0, 8, 23);
        dueThrows(Check.told("law 0;child shy 1 0 1;child shy 2 0 1;child shy 3 0 1;child shy 4 0 1;"), 1, 2, 0, 3);
        dueThrows(Check.told("law 0;child shy 2 2 1;"), 2, 1, 2);
    }

    /** "so that each CHILD has": there is none, so none has to be thrown. */
    private static void throwsOfNobody() {
        for (int spread = 0; spread <= 2; spread++) {
            dueThrows(Check.told("law 0;"), spread, 0);
            dueThrows(Check.told("law 20;drain 0 0;"), spread, 0);
        }
    }

    /** "NONE (not so many, too)": the k-th is there up to the last one; k counts from 0 on. */
    private static void throwsNotSoMany() {
        HotPennies one = Check.told("law 0;child shy 5 4 1;");
        HotPennies two = Check.told("law 0;child shy 5 4 1;child shy 0 0 1;");
        HotPennies three = Check.told("law 0;child shy 5 4 1;child shy 0 0 1;child shy 1 1 1;");
        HotPennies[] of = {one, two, three};
        for (int n = 1; n <= 3; n++) {
            HotPennies x = of[n - 1];
            T.due("throwsFor(0, -1) of " + n, x.throwsFor(0, -1), n);
            T.due("throwsFor(0, " + (n - 1) + ") of " + n, x.throwsFor(0, n - 1), 29);
            T.due("throwsFor(0, " + n + ") of " + n, x.throwsFor(0, n), Check.NONE);
            T.due("throwsFor(0, -2) of " + n, x.throwsFor(0, -2), Check.BAD);
        }
        T.due("three, then less: throwsFor(2, -1)", three.throwsFor(2, -1), 2);
        T.due("three, then less: throwsFor(2, 2)", three.throwsFor(2, 2), Check.NONE);
    }

    /** "COOL ..: the least HEAT (0 to 20) by which his MEAN is 0; NONE." */
    private static void coolFromNoughtToTwenty() {
        for (int s = 1; s <= 9; s++) {
            String where = " 2 2 " + s + ";";
            for (int heat : new int[] {0, 7, 20}) {
                HotPennies small = Check.told("law " + heat + ";child small" + where);
                T.due("cool of a small one of " + s, small.cool(0, 14, 0), 2 * s);
                T.due("cool beside a small one of " + s, small.cool(0, 13, 0), s);
                T.due("cool far from a small one", small.cool(0, 12, 0), 0);
                T.due("cool of a small one, spread 2", small.cool(0, 14, 2), 2 * s);
                HotPennies big = Check.told("law " + heat + ";child big" + where);
                T.due("cool of a big one of " + s, big.cool(0, 14, 1), s <= 5 ? 4 * s : Check.NONE);
                T.due("cool beside a big one of " + s, big.cool(0, 8, 0), 2 * s);
                HotPennies shy = Check.told("law " + heat + ";child shy" + where);
                T.due("cool of a shy one of " + s, shy.cool(0, 14, 1), 2 * s);
                T.due("cool beside a shy one", shy.cool(0, 13, 0), 0);
                T.due("count(3)", shy.count(3), heat);
            }
        }
        HotPennies apart = Check.told("law 20;child glove 2 2 1;child apron 5 4 1;");
        T.due("cool with gloves", apart.cool(0, 13, 0), Check.NONE);
        T.due("cool with gloves, too far", apart.cool(0, 12, 0), 0);
        T.due("cool with an apron", apart.cool(1, 17, 0), Check.NONE);
        T.due("cool with an apron, too far", apart.cool(1, 11, 0), 0);
        T.due("cool at a drain", Check.told("law 3;drain 0 0;child glove 0 0 9;").cool(0, 0, 0), 0);
    }

    /** "by which his MEAN is 0": the heat is another one for all. */
    private static void coolWhoeverElsePicks() {
        HotPennies x = Check.told("law 5;child small 2 2 9;child glove 2 2 4;child small 2 2 9;");
        T.due("cool(0, 14, 0): 18 less heat by 8", x.cool(0, 14, 0), 11);
        T.due("cool(1, 14, 0): not yet by heat 0", x.cool(1, 14, 0), 0);
        T.due("cool(2, 14, 0): the first one has as much", x.cool(2, 14, 0), 0);
        HotPennies y = Check.told("law 5;child glove 2 2 4;child small 2 2 9;");
        T.due("cool(1, 14, 0): 18 less heat by 8 of the one ahead", y.cool(1, 14, 0), 10);
    }

    /** "n ITEMS (0 to 20)", "how many he had (0 to 20)": and he had more than landed. */
    private static void stoodNoughtToTwenty() {
        HotPennies x = Check.told(SHY);
        x.row(0, 2, 40);
        for (int n = 0; n <= 20; n++) {
            T.due("stood(0, 0, " + n + ", 0, " + n + ")", x.stood(0, 0, n, 0, n), n == 0 ? ALL : 1);
            T.due("stood(0, 20, " + n + ", 0, 0)", x.stood(0, 20, n, 0, 0), n == 0 ? ALL : ALL & ~1);
            if (n < 20) {
                T.due("stood, he had one more", x.stood(0, 0, n, 0, n + 1), 0);
                T.due("stood, he had 20", x.stood(0, 0, n, 0, 20), 0);
            }
        }
        T.due("stood, n 21", x.stood(0, 0, 21, 0, 0), Check.BAD);
        T.due("stood, n -1", x.stood(0, 0, -1, 0, 0), Check.BAD);
        T.due("stood, had 21", x.stood(0, 0, 20, 0, 21), Check.BAD);
        T.due("stood, had -1", x.stood(0, 0, 20, 0, -1), Check.BAD);
        for (int i = 0; i < 20; i++) {
            x.set(0, i, i + 10);
        }
        T.due("stood, twenty cells, he had one", x.stood(0, 0, 20, 0, 1), ALL & ~1023);
        T.due("stood, twenty cells, he had none", x.stood(0, 0, 20, 0, 0), 1023);
        x.set(0, 0, 29);
        T.due("stood, a cell twice", x.stood(0, 0, 20, 0, 2), Check.bits(29));
    }

    /** "then BAD: an ITEM that is no CELL" */
    private static void stoodItemsThatAreCells() {
        HotPennies x = Check.told(SHY);
        x.row(0, 2, 3);
        for (int cell = 0; cell < 30; cell++) {
            x.set(0, 1, cell);
            T.due("stood of an item " + cell, x.stood(0, 1, 1, 0, 1), Check.bits(cell));
        }
        for (int item : new int[] {-1, 30, 31, 32, 256, 65536, Check.MAX, Check.MIN, Check.MIN + 5}) {
            for (int i = 0; i < 3; i++) {
                x.row(0, 2, 3);
                x.set(0, i, item);
                T.due("stood, item " + i + " is " + item, x.stood(0, 0, 3, 0, 0), Check.BAD);
                T.due("status() stays", x.status(), 0);
            }
        }
    }

    /** "n ITEMS of a ROW from i on": those alone have to be cells. */
    private static void stoodItemsFromIOn() {
        HotPennies x = Check.told(SHY);
        Check.tellRow(x, 5, -1, 3, 4, 30, 5, -2);
        T.due("stood(5, 1, 2, 0, 1)", x.stood(5, 1, 2, 0, 1), Check.bits(3, 4));
        T.due("stood(5, 4, 1, 0, 1)", x.stood(5, 4, 1, 0, 1), Check.bits(5));
        T.due("stood(5, 0, 0, 0, 0)", x.stood(5, 0, 0, 0, 0), ALL);
        T.due("stood(5, 3, 0, 0, 0)", x.stood(5, 3, 0, 0, 0), ALL);
        T.due("stood(5, 6, 0, 0, 0)", x.stood(5, 6, 0, 0, 0), ALL);
        T.due("stood(5, 0, 1, 0, 1)", x.stood(5, 0, 1, 0, 1), Check.BAD);
        T.due("stood(5, 1, 3, 0, 1)", x.stood(5, 1, 3, 0, 1), Check.BAD);
        T.due("stood(5, 5, 1, 0, 1)", x.stood(5, 5, 1, 0, 1), Check.BAD);
        T.due("stood(5, 5, 2, 0, 1)", x.stood(5, 5, 2, 0, 1), Check.PLACE);
        T.due("stood(5, 7, 0, 0, 0)", x.stood(5, 7, 0, 0, 0), Check.PLACE);
        T.due("stood(5, -1, 0, 0, 0)", x.stood(5, -1, 0, 0, 0), Check.PLACE);
        T.due("stood(5, -1, 2, 0, 0)", x.stood(5, -1, 2, 0, 0), Check.PLACE);
    }

    /** "CELLS (bits) in which he can have stood, all others as they are" */
    private static void stoodWithDrainsAndHeat() {
        HotPennies x = Check.told("law 3;drain 0 0;child small 5 4 4;child glove 2 2 2;child small 3 2 3;");
        Check.tellRow(x, 0, 14, 0, 29);
        T.due("stood at a drain, he had none", x.stood(0, 1, 1, 0, 0), ALL);
        T.due("stood at a drain, he had one", x.stood(0, 1, 1, 0, 1), 0);
        T.due("stood: 5 by 4 of another one, 1 beside", x.stood(0, 0, 1, 0, 1), Check.bits(14));
        T.due("stood where nobody is", x.stood(0, 2, 1, 0, 1), Check.bits(23, 28, 29));
        T.due("stood where another one has 5: 4, 2, 2", x.stood(0, 2, 1, 1, 1), 0);
        T.due("stood: 3 by 4 of another one", x.stood(0, 0, 1, 2, 1), 0);
        T.due("stood: he has not had what is lost", x.stood(0, 0, 2, 1, 1), Check.bits(8, 13, 14, 15, 20));
        T.due("child(0, 0)", x.child(0, 0), 29);
    }

    /** "ITEMS of a ROW": of bytes, of shorts, of ints. */
    private static void stoodInALaneOfAnyKind() {
        HotPennies x = Check.told(SHY);
        for (int lane = 0; lane <= 2; lane++) {
            x.row(lane, lane, 2);
            x.set(lane, 1, 29);
            T.due("stood of lane " + lane, x.stood(lane, 0, 2, 0, 1), Check.bits(0, 29));
            x.set(lane, 0, 65536 + 256 + 7);
            int cut = x.stood(lane, 0, 2, 0, 1);
            T.due("stood of lane " + lane + ", 65536 + 256 + 7", cut, lane == 0 ? Check.bits(7, 29) : Check.BAD);
            x.set(lane, 0, 65536 + 7);
            cut = x.stood(lane, 0, 2, 0, 1);
            T.due("stood of lane " + lane + ", 65536 + 7", cut, lane <= 1 ? Check.bits(7, 29) : Check.BAD);
        }
    }
}
