import java.math.BigInteger;
import java.util.ArrayList;
import java.util.List;

/**
 * The boundaries of cells, throws, ways, power and acts: section 2 of the terms, promises 9 to 15.
 *
 * <p>Above each test stands the sentence that it holds. An object is used for 512 calls at most: who has
 * nearly 9999 pennies has few calls left.
 */
public final class ActBoundsTest {
    private static final Check T = new Check("ActBoundsTest");

    public static void main(String[] args) {
        cellsByXAndY();
        farByXAndByY();
        waysOfEachPlace();
        waysInOrderByYThenX();
        waysBeyondTheSquareAreLost();
        drainsLoseWhatLands();
        powerOfEachKind();
        powerIsNoughtAtLeast();
        pickedByTheGreatest();
        pickedByAPowerAboveNought();
        pickedByTheFirstOfSeveral();
        drawsFromTheSeedOn();
        drawsOfManyPennies();
        tossOfOneToTwentyPennies();
        tossTellsHowManyWerePicked();
        tossFullForEachOfFive();
        tossFullForAnybody();
        tossFullChangesNothing();
        tossUpToTheLastPenny();
        runTellsHowFarItWas();
        cornerTakesHalfCut();
        cornerOfLessStrength();
        cornerUpToTheLastPenny();
        cornerOfMoreThanThereIsRoomFor();
        cornerAmongEquals();
        actsAreKeptUpToTwentyFour();
        actsAreForgottenFromTheOldestOn();
        actsByWhichNothingBecomesAnother();
        actsThatAreRefusedAreNotKept();
        undoTheLatestFirst();
        undoTellsHowManyAreLeft();
        T.end();
    }

    private static int far(int a, int b) {
        return Math.abs(a % 6 - b % 6) + Math.abs(a / 6 - b / 6);
    }

    private static String at(int cell) {
        return " " + cell % 6 + " " + cell / 6 + " ";
    }

    /** The places of a throw, way by way: a cell's number, or -1 beyond the square. */
    private static List<Integer> ways(int cell, int spread) {
        List<Integer> ways = new ArrayList<>();
        for (int y = cell / 6 - spread; y <= cell / 6 + spread; y++) {
            for (int x = cell % 6 - spread; x <= cell % 6 + spread; x++) {
                int far = Math.abs(x - cell % 6) + Math.abs(y - cell / 6);
                boolean inside = x >= 0 && x <= 5 && y >= 0 && y <= 4;
                for (int way = far; way <= spread; way++) {
                    ways.add(inside ? 6 * y + x : -1);
                }
            }
        }
        return ways;
    }

    /** A seed whose first draw is a way of that number. */
    private static int seedOf(int way, int ways) {
        for (int seed = 1; seed <= ways; seed++) {
            if (16807 * seed % ways == way) {
                return seed;
            }
        }
        throw new IllegalStateException("no seed");
    }

    /** "CELLS x 0 to 5, y 0 to 4; a CELL's number is 6 y and x." */
    private static void cellsByXAndY() {
        for (int y = 0; y <= 4; y++) {
            for (int x = 0; x <= 5; x++) {
                HotPennies o = Check.told("law 0;drain " + x + " " + y + ";child shy " + x + " " + y + " 1;");
                T.due("child(0, 0) of " + x + ", " + y, o.child(0, 0), 6 * y + x);
                for (int cell = 0; cell < 30; cell++) {
                    T.due("cell(" + cell + ", 1) of " + x + ", " + y, o.cell(cell, 1), cell == 6 * y + x ? 1 : 0);
                }
            }
        }
    }

    /** "FAR from CELL to CELL is by x and by y, added." */
    private static void farByXAndByY() {
        for (int from = 0; from < 30; from++) {
            HotPennies x = Check.told("law 0;child shy" + at(from) + "1;");
            for (int to = 0; to < 30; to++) {
                T.due("run from " + from + " to " + to, x.run(0, to), far(from, to));
                T.due("run from " + to + " to " + from, x.run(0, from), far(from, to));
            }
        }
        HotPennies x = Check.told("law 0;child shy 0 0 1;");
        T.due("from corner to corner", x.run(0, 29), 9);
        T.due("back", x.run(0, 0), 9);
        T.due("to the end of the line", x.run(0, 5), 5);
        T.due("to the next number, a line on", x.run(0, 6), 6);
    }

    /**
     * "of all places that are as FAR from it as SPREAD at most, also beyond the square, each has SPREAD and 1 less
     * FAR of WAYS"
     */
    private static void waysOfEachPlace() {
        int[][] above = {{1}, {1, 1}, {3, 2, 1}};
        int[][] below = {{1}, {3, 6}, {19, 19, 19}};
        for (int stands = 0; stands < 30; stands++) {
            for (int spread = 0; spread <= 2; spread++) {
                HotPennies x = Check.told("law 0;child shy" + at(stands) + "1;");
                for (int cell = 0; cell < 30; cell++) {
                    int d = far(stands, cell);
                    String of = "mean(0, " + cell + ", " + spread + ", ..) of one in " + stands;
                    T.due(of, x.mean(0, cell, spread, 0), d > spread ? 0 : above[spread][d]);
                    T.due(of, x.mean(0, cell, spread, 1), d > spread ? 1 : below[spread][d]);
                }
            }
        }
    }

    /** "they are in order, by y, then x, the least first": also those beyond the square. */
    private static void waysInOrderByYThenX() {
        for (int cell : new int[] {0, 1, 5, 6, 11, 14, 18, 24, 28, 29}) {
            for (int spread = 0; spread <= 2; spread++) {
                HotPennies x = Check.told("law 0;child shy 0 0 1;");
                List<Integer> ways = ways(cell, spread);
                T.due("how many ways", ways.size(), new int[] {1, 6, 19}[spread]);
                for (int way = 0; way < ways.size(); way++) {
                    int land = ways.get(way);
                    x.run(0, Math.max(land, 0));
                    T.due("toss(" + cell + ", " + spread + ") by way " + way,
                            x.toss(cell, spread, 1, seedOf(way, ways.size())), land < 0 ? 0 : 1);
                    x.run(0, (land + 15) % 30);
                    T.due("toss(" + cell + ", " + spread + ") by way " + way + ", he is elsewhere",
                            x.toss(cell, spread, 1, seedOf(way, ways.size())), 0);
                }
            }
        }
    }

    /** "in a place beyond the square .. it is lost": on each side; not in the cell of the next number. */
    private static void waysBeyondTheSquareAreLost() {
        int[][] throwsAt = {{5, 6}, {6, 5}, {11, 12}, {12, 11}, {23, 24}, {24, 23}, {0, 29}, {29, 0}, {0, 24}, {24, 0},
            {5, 29}, {29, 5}, {0, 5}, {5, 0}, {2, 26}, {26, 2}};
        for (int[] pair : throwsAt) {
            HotPennies x = Check.told("law 0;child shy" + at(pair[1]) + "1;");
            for (int seed = 1; seed <= 19; seed++) {
                T.due("toss(" + pair[0] + ", 1) with one in " + pair[1], x.toss(pair[0], 1, 1, seed), 0);
                T.due("toss(" + pair[0] + ", 2) with one in " + pair[1], x.toss(pair[0], 2, 1, seed), 0);
            }
        }
        for (int corner : new int[] {0, 5, 24, 29}) {
            HotPennies x = Check.told("law 0;child glove" + at(corner) + "1;");
            T.due("mean at a corner, spread 1", x.mean(0, corner, 1, 0), 2);
            T.due("mean at a corner, spread 1", x.mean(0, corner, 1, 1), 3);
            T.due("mean at a corner, spread 2", x.mean(0, corner, 2, 0), 7);
            T.due("mean at a corner, spread 2", x.mean(0, corner, 2, 1), 19);
        }
    }

    /** "or with a drain, it is lost": wherever he stands; what lands beside it is not. */
    private static void drainsLoseWhatLands() {
        for (int drain : new int[] {0, 14, 29}) {
            HotPennies x = Check.told("law 0;drain" + at(drain) + ";child glove" + at(drain) + "9;");
            T.due("toss at a drain", x.toss(drain, 0, 20, 1), 0);
            T.due("cell(" + drain + ", 0)", x.cell(drain, 0), Check.NONE);
            T.due("power does not know of drains", x.power(0, drain), 18);
            int beside = drain == 29 ? 28 : drain + 1;
            T.due("toss beside it", x.toss(beside, 0, 20, 1), 20);
            T.due("cell(" + beside + ", 0)", x.cell(beside, 0), 0);
            T.due("he has", x.child(0, 2), 20);
        }
    }

    private static int power(int kind, int s, int heat, int d) {
        int p = switch (kind) {
            case 0 -> s * (2 - d) - heat;
            case 1 -> 2 * s * (2 - d) - heat;
            case 2 -> s * (3 - d);
            case 3 -> s * (2 - d);
            default -> d == 0 ? 2 * s - heat : 0;
        };
        return Math.max(p, 0);
    }

    /** "POWER of a CHILD at a CELL as FAR from him as d: STRENGTH times (2 less d), less HEAT; of a big one .." */
    private static void powerOfEachKind() {
        for (int heat = 0; heat <= 20; heat++) {
            for (int s = 1; s <= 9; s++) {
                String where = " 1 1 " + s + ";";
                HotPennies x = Check.told("law " + heat + ";child small" + where + "child big" + where + "child apron"
                        + where + "child glove" + where + "child shy" + where);
                for (int c = 0; c < 5; c++) {
                    for (int cell = 0; cell < 30; cell++) {
                        T.due("power(" + c + ", " + cell + ") of strength " + s + ", heat " + heat,
                                x.power(c, cell), power(c, s, heat, far(7, cell)));
                    }
                }
            }
        }
    }

    /** "0 at least": by how far it is, and by how hot. */
    private static void powerIsNoughtAtLeast() {
        HotPennies x = Check.told("law 8;child small 0 0 4;child big 0 0 4;child apron 0 0 9;child glove 0 0 9;"
                + "child shy 0 0 4;");
        int[][] due = {{0, 0, 0, 0}, {8, 0, 0, 0}, {27, 18, 9, 0}, {18, 9, 0, 0}, {0, 0, 0, 0}};
        for (int c = 0; c < 5; c++) {
            for (int d = 0; d <= 3; d++) {
                T.due("power(" + c + ", " + d + ")", x.power(c, d), due[c][d]);
                T.due("power(" + c + ", " + 6 * d + ")", x.power(c, 6 * d), due[c][d]);
            }
            T.due("power(" + c + ", 29)", x.power(c, 29), 0);
        }
    }

    /** "PICKED by the CHILD whose POWER there is greatest": not who is nearest, nor who is strongest. */
    private static void pickedByTheGreatest() {
        HotPennies x = Check.told("law 0;child glove 0 0 1;child glove 0 0 2;child glove 0 0 3;child glove 0 0 4;"
                + "child glove 0 0 5;");
        for (int best = 4; best >= 0; best--) {
            T.due("cell(0, 0) while " + best + " is the strongest there", x.cell(0, 0), best);
            T.due("toss at it", x.toss(0, 0, 3, 1), 3);
            T.due("child(" + best + ", 2)", x.child(best, 2), 3);
            x.run(best, 29);
        }
        HotPennies y = Check.told("law 0;child glove 2 2 3;child glove 3 2 5;child apron 4 2 4;");
        T.due("cell(14, 0): 6 by 5 by 4", y.cell(14, 0), 0);
        T.due("cell(15, 0): 3 by 10 by 8", y.cell(15, 0), 1);
        T.due("cell(16, 0): 0 by 5 by 12", y.cell(16, 0), 2);
        T.due("cell(8, 0): 3 by 0 by 0", y.cell(8, 0), 0);
        HotPennies hot = Check.told("law 5;child big 2 2 2;child glove 2 2 2;child small 2 2 9;child apron 2 2 1;");
        T.due("power(0, 14)", hot.power(0, 14), 3);
        T.due("power(2, 14)", hot.power(2, 14), 13);
        T.due("cell(14, 0): 3 by 4 by 13 by 3", hot.cell(14, 0), 2);
        T.due("cell(15, 0): 0 by 2 by 4 by 2", hot.cell(15, 0), 2);
        hot.run(2, 0);
        T.due("cell(15, 0): 0 by 2 by 0 by 2", hot.cell(15, 0), 1);
    }

    /** "above 0 ..; else it lies, and is lost, too" */
    private static void pickedByAPowerAboveNought() {
        for (int heat = 0; heat <= 20; heat++) {
            HotPennies x = Check.told("law " + heat + ";child small 2 2 5;");
            boolean there = heat < 10;
            boolean beside = heat < 5;
            T.due("cell(14, 0) by heat " + heat, x.cell(14, 0), there ? 0 : Check.NONE);
            T.due("cell(13, 0) by heat " + heat, x.cell(13, 0), beside ? 0 : Check.NONE);
            T.due("cell(12, 0) by heat " + heat, x.cell(12, 0), Check.NONE);
            T.due("toss(14, 0) by heat " + heat, x.toss(14, 0, 7, 1), there ? 7 : 0);
            T.due("toss(13, 0) by heat " + heat, x.toss(13, 0, 7, 1), beside ? 7 : 0);
            T.due("child(0, 2)", x.child(0, 2), there && beside ? 14 : there ? 7 : 0);
        }
        HotPennies nobody = Check.told("law 0;");
        T.due("toss where there is nobody", nobody.toss(14, 2, 20, 1), 0);
        T.due("cell(14, 0)", nobody.cell(14, 0), Check.NONE);
    }

    /** "of several the first": of all five, and where the first of all has less. */
    private static void pickedByTheFirstOfSeveral() {
        HotPennies x = Check.told("law 0;" + "child glove 2 2 4;".repeat(5));
        for (int first = 0; first < 5; first++) {
            T.due("cell(14, 0): " + first + " is the first there", x.cell(14, 0), first);
            T.due("toss(14, 0)", x.toss(14, 0, 2, 1), 2);
            T.due("child(" + first + ", 2)", x.child(first, 2), 2);
            x.run(first, 0);
        }
        HotPennies y = Check.told("law 2;child glove 2 2 3;child apron 2 2 3;child big 2 2 2;child small 2 2 5;"
                + "child glove 2 2 4;");
        T.due("cell(14, 0): 6, 9, 6, 8, 8", y.cell(14, 0), 1);
        T.due("cell(8, 0): 3, 6, 2, 3, 4", y.cell(8, 0), 1);
        y.run(1, 29);
        T.due("cell(14, 0): 6, -, 6, 8, 8", y.cell(14, 0), 3);
        y.run(3, 29);
        T.due("cell(14, 0): 6, -, 6, -, 8", y.cell(14, 0), 4);
        y.run(4, 29);
        T.due("cell(14, 0): 6, -, 6, -, -", y.cell(14, 0), 0);
        T.due("cell(13, 0): 3, -, 2, -, -", y.cell(13, 0), 0);
    }

    /** "X becomes the rest of (X times 16807) by 2147483647": the first ten draws of the seed 1, as they are known. */
    private static void drawsFromTheSeedOn() {
        int[] draws = {16807, 282475249, 1622650073, 984943658, 1144108930, 470211272, 101027544, 1457850878,
            1458777923, 2007237709};
        for (int spread = 1; spread <= 2; spread++) {
            List<Integer> ways = ways(14, spread);
            for (int land : new int[] {14, 8, 13, 20, 2, 26}) {
                HotPennies x = Check.told("law 0;child shy" + at(land) + "1;");
                int due = 0;
                for (int n = 1; n <= 10; n++) {
                    due += ways.get(draws[n - 1] % ways.size()) == land ? 1 : 0;
                    T.due("toss(14, " + spread + ", " + n + ", 1) with one in " + land, x.toss(14, spread, n, 1), due);
                }
            }
        }
    }

    /** "(X at first): for each of them": up to 20 pennies, and up to the greatest seed. */
    private static void drawsOfManyPennies() {
        for (int seed : new int[] {1, 2, 127773, 127774, 500000, 999998, 999999}) {
            for (int cell : new int[] {14, 0, 29}) {
                HotPennies x = Check.told("law 0;child shy" + at(cell) + "1;");
                List<Integer> ways = ways(cell, 2);
                BigInteger drawn = BigInteger.valueOf(seed);
                int due = 0;
                for (int n = 1; n <= 20; n++) {
                    drawn = drawn.multiply(BigInteger.valueOf(16807)).mod(BigInteger.valueOf(2147483647));
                    due += ways.get(drawn.mod(BigInteger.valueOf(19)).intValue()) == cell ? 1 : 0;
                    T.due("toss(" + cell + ", 2, " + n + ", " + seed + ")", x.toss(cell, 2, n, seed), due);
                    T.due("the same again", x.toss(cell, 2, n, seed), due);
                }
            }
        }
    }

    /** "A THROW of n pennies (1 to 20; SEED 1 to 999999)". "BAD" */
    private static void tossOfOneToTwentyPennies() {
        HotPennies x = Check.told("law 0;child glove 2 2 1;child shy 0 0 1;");
        T.bounds("toss(.., 1, 1, 1)", 0, 29, cell -> x.toss(cell, 1, 1, 1));
        T.bounds("toss(14, .., 1, 1)", 0, 2, spread -> x.toss(14, spread, 1, 1));
        T.bounds("toss(14, 1, .., 1)", 1, 20, n -> x.toss(14, 1, n, 1));
        T.bounds("toss(14, 1, 1, ..)", 1, 999999, seed -> x.toss(14, 1, 1, seed));
        HotPennies y = Check.told("law 0;child glove 2 2 1;");
        for (int n = 1; n <= 20; n++) {
            T.due("toss(14, 0, " + n + ", 1)", y.toss(14, 0, n, 1), n);
            T.due("child(0, 2)", y.child(0, 2), n * (n + 1) / 2);
        }
    }

    /** "how many were PICKED": by anybody, of all that are thrown. */
    private static void tossTellsHowManyWerePicked() {
        HotPennies x = Check.told("law 0;drain 2 1;child shy 1 2 1;child shy 3 2 1;child shy 2 3 1;");
        int[] land = {8, 13, 14, 14, 15, 20};
        int[] due = {0, 1, 0, 0, 1, 1};
        int[] who = {-1, 0, -1, -1, 1, 2};
        for (int way = 0; way < 6; way++) {
            int ahead = who[way] < 0 ? 0 : x.child(who[way], 2);
            T.due("toss by way " + way + " to " + land[way], x.toss(14, 1, 1, seedOf(way, 6)), due[way]);
            if (who[way] >= 0) {
                T.due("child(" + who[way] + ", 2)", x.child(who[way], 2), ahead + 1);
            }
        }
        T.due("count(5)", x.count(5), 3);
        int sum = 3 + x.toss(14, 1, 20, 77);
        T.due("count(5) is as many more as were picked", x.count(5), sum);
    }

    /** One in the first corner who has none, one in the last corner who has 9980: 505 calls. */
    private static HotPennies nearlyFull() {
        HotPennies x = Check.told("law0;child shy0 0 1;child big5 4 9;");
        for (int k = 0; k < 499; k++) {
            x.toss(29, 0, 20, 1);
        }
        return x;
    }

    /** "FULL: somebody, whoever": the first of five, the last, and those between; 512 calls. */
    private static void tossFullForEachOfFive() {
        for (int who = 0; who < 5; who++) {
            String ahead = "child shy0 0 1;".repeat(who);
            HotPennies x = Check.told("law0;" + ahead + "child big5 4 9;" + "child shy0 0 1;".repeat(4 - who));
            for (int k = 0; k < 499; k++) {
                x.toss(29, 0, 20, 1);
            }
            T.due("toss of 20, child " + who + " has 9980", x.toss(0, 0, 20, 1), Check.FULL);
            T.due("toss of 19, child " + who + " has 9980", x.toss(0, 0, 19, 1), 19);
        }
    }

    /** "FULL: somebody, whoever, might have more than 9999 by n more." */
    private static void tossFullForAnybody() {
        HotPennies x = nearlyFull();
        T.due("child(1, 2)", x.child(1, 2), 9980);
        T.due("toss of 20 at him", x.toss(29, 0, 20, 1), Check.FULL);
        T.due("toss of 20 at the other one", x.toss(0, 0, 20, 1), Check.FULL);
        T.due("toss of 20 where nobody is", x.toss(14, 0, 20, 1), Check.FULL);
        T.due("toss of 19 at the other one", x.toss(0, 0, 19, 1), 19);
        T.due("child(0, 2)", x.child(0, 2), 19);
        HotPennies y = nearlyFull();
        T.due("BAD ahead of FULL: cell", y.toss(30, 0, 20, 1), Check.BAD);
        T.due("BAD ahead of FULL: cell", y.toss(-1, 0, 20, 1), Check.BAD);
        T.due("BAD ahead of FULL: spread", y.toss(29, 3, 20, 1), Check.BAD);
        T.due("BAD ahead of FULL: spread", y.toss(29, -1, 20, 1), Check.BAD);
        T.due("BAD ahead of FULL: n", y.toss(29, 0, 21, 1), Check.BAD);
        T.due("BAD ahead of FULL: seed", y.toss(29, 0, 20, 0), Check.BAD);
        T.due("BAD ahead of FULL: seed", y.toss(29, 0, 20, 1000000), Check.BAD);
    }

    /** "What is refused .. changes nothing": no penny is thrown, and no act is kept. */
    private static void tossFullChangesNothing() {
        HotPennies x = nearlyFull();
        T.due("toss of 20", x.toss(0, 0, 20, 1), Check.FULL);
        T.due("child(0, 2)", x.child(0, 2), 0);
        T.due("child(1, 2)", x.child(1, 2), 9980);
        T.due("count(5)", x.count(5), 9980);
        T.due("undo() of the latest that was none", x.undo(), 23);
        T.due("child(1, 2)", x.child(1, 2), 9960);
        T.due("toss of 20", x.toss(29, 0, 20, 1), 20);
    }

    /** "more than 9999": 9999 is not. */
    private static void tossUpToTheLastPenny() {
        HotPennies x = nearlyFull();
        T.due("toss of 19", x.toss(29, 0, 19, 1), 19);
        T.due("child(1, 2)", x.child(1, 2), 9999);
        T.due("toss of 1", x.toss(29, 0, 1, 1), Check.FULL);
        T.due("toss of 1 at the other one", x.toss(0, 0, 1, 1), Check.FULL);
        T.due("undo()", x.undo(), 23);
        T.due("toss of 18", x.toss(29, 0, 18, 1), 18);
        T.due("toss of 1", x.toss(29, 0, 1, 1), 1);
    }

    /** "A CHILD RUNS: how FAR it was. BAD." */
    private static void runTellsHowFarItWas() {
        HotPennies x = Check.told("law 0;drain 0 0;child shy 0 0 1;child big 5 4 9;");
        T.bounds("run(0, ..)", 0, 29, cell -> x.run(0, cell));
        T.bounds("run(.., 3)", 0, 1, child -> x.run(child, 3));
        T.due("run to where he is", x.run(0, 3), 0);
        T.due("run to where another one is", x.run(0, x.child(1, 0)), 0);
        T.due("run to a drain", x.run(0, 0), 3);
        T.due("child(0, 0)", x.child(0, 0), 0);
        T.due("child(1, 0)", x.child(1, 0), 3);
    }

    /** "at the CORNER one takes half (cut) of what another one has": of 0 to 9. */
    private static void cornerTakesHalfCut() {
        for (int had = 0; had <= 9; had++) {
            HotPennies x = Check.told("law 0;child small 0 0 2;child glove 5 4 1;");
            if (had > 0) {
                x.toss(29, 0, had, 1);
            }
            x.toss(0, 0, 5, 1);
            int acts = x.count(4);
            T.due("corner(0, 1) of one who has " + had, x.corner(0, 1), had / 2);
            T.due("child(0, 2)", x.child(0, 2), 5 + had / 2);
            T.due("child(1, 2)", x.child(1, 2), had - had / 2);
            T.due("count(4)", x.count(4), acts + 1);
        }
    }

    /**
     * "who has less STRENGTH (big ones by twice theirs)". "STATE: the other one has no less STRENGTH". "BAD: alike,
     * too"
     */
    private static void cornerOfLessStrength() {
        String[] sorts = {"small", "big", "apron", "glove", "shy"};
        for (int a = 0; a < 5; a++) {
            for (int b = 0; b < 5; b++) {
                for (int s = 1; s <= 9; s += 2) {
                    String me = "child " + sorts[a] + " 0 0 " + s + ";";
                    HotPennies x = Check.told("law 0;" + me + "child " + sorts[b] + " 1 0 4;");
                    int mine = a == 1 ? 2 * s : s;
                    int his = b == 1 ? 8 : 4;
                    T.due("corner(0, 1), " + mine + " by " + his, x.corner(0, 1), mine > his ? 0 : Check.STATE);
                    T.due("corner(1, 0), " + his + " by " + mine, x.corner(1, 0), his > mine ? 0 : Check.STATE);
                    T.due("count(4)", x.count(4), mine == his ? 0 : 1);
                }
            }
        }
        dueCorner("child small 0 0 4;child glove 1 0 4;", Check.STATE);
        dueCorner("child small 0 0 5;child glove 1 0 4;", 0);
        dueCorner("child small 0 0 4;child big 1 0 2;", Check.STATE);
        dueCorner("child small 0 0 5;child big 1 0 2;", 0);
        dueCorner("child small 0 0 3;child big 1 0 2;", Check.STATE);
        dueCorner("child big 0 0 2;child small 1 0 4;", Check.STATE);
        dueCorner("child big 0 0 2;child small 1 0 3;", 0);
        dueCorner("child big 0 0 2;child big 1 0 2;", Check.STATE);
        dueCorner("child big 0 0 3;child big 1 0 2;", 0);
        for (int c = 0; c < 3; c++) {
            HotPennies x = Check.told("law 0;child big 0 0 9;child small 0 0 1;child shy 0 0 5;");
            T.due("corner(" + c + ", " + c + "), alike", x.corner(c, c), Check.BAD);
            T.due("corner(" + c + ", 3)", x.corner(c, 3), Check.BAD);
            T.due("corner(3, " + c + ")", x.corner(3, c), Check.BAD);
            T.due("corner(" + c + ", -1)", x.corner(c, -1), Check.BAD);
            T.due("corner(-1, " + c + ")", x.corner(-1, c), Check.BAD);
            T.due("corner(3, 3)", x.corner(3, 3), Check.BAD);
        }
    }

    private static void dueCorner(String children, int due) {
        T.due("corner(0, 1) of " + children, Check.told("law 0;" + children).corner(0, 1), due);
    }

    /** Two who have 9980, and so many (thrown first, as later it might be too much for the other one): 508 calls. */
    private static HotPennies rich(String children, int his) {
        HotPennies x = Check.told("law0;" + children);
        x.toss(29, 0, 20, 1);
        x.toss(29, 0, his - 20, 1);
        for (int k = 0; k < 499; k++) {
            x.toss(0, 0, 20, 1);
        }
        return x;
    }

    /** "corner: .. FULL: more than 9999": 9999 is not. */
    private static void cornerUpToTheLastPenny() {
        for (int his = 38; his <= 39; his++) {
            HotPennies x = rich("child big0 0 9;child shy5 4 1;", his);
            T.due("corner(0, 1) of one who has " + his, x.corner(0, 1), 19);
            T.due("child(0, 2)", x.child(0, 2), 9999);
            T.due("child(1, 2)", x.child(1, 2), his - 19);
            T.due("undo()", x.undo(), 23);
        }
    }

    /** "corner: .. FULL": 10000; it changes nothing, and is not kept. */
    private static void cornerOfMoreThanThereIsRoomFor() {
        HotPennies x = rich("child big0 0 9;child shy5 4 1;", 40);
        T.due("corner(0, 1)", x.corner(0, 1), Check.FULL);
        T.due("child(0, 2)", x.child(0, 2), 9980);
        T.due("undo() of the latest throw", x.undo(), 23);
        T.due("child(0, 2)", x.child(0, 2), 9960);
        HotPennies y = rich("child big0 0 9;child shy5 4 1;", 40);
        T.due("corner(0, 1)", y.corner(0, 1), Check.FULL);
        T.due("child(1, 2)", y.child(1, 2), 40);
        T.due("child(0, 2)", y.child(0, 2), 9980);
    }

    /** The order: BAD, STATE, FULL. */
    private static void cornerAmongEquals() {
        HotPennies x = rich("child glove0 0 1;child glove5 4 1;", 40);
        T.due("STATE ahead of FULL", x.corner(0, 1), Check.STATE);
        T.due("BAD, alike, ahead of STATE and FULL", x.corner(0, 0), Check.BAD);
        T.due("BAD ahead of FULL", x.corner(0, 2), Check.BAD);
        T.due("child(0, 2)", x.child(0, 2), 9980);
    }

    /** "ACTS (24 at most are kept ..)" */
    private static void actsAreKeptUpToTwentyFour() {
        HotPennies x = Check.told("law 0;child small 0 0 3;child big 5 4 9;");
        for (int act = 1; act <= 40; act++) {
            switch (act % 3) {
                case 0 -> x.toss(14, 2, 3, act);
                case 1 -> x.run(0, act % 30);
                default -> x.corner(1, 0);
            }
            T.due("count(4) after act " + act, x.count(4), Math.min(act, 24));
        }
        for (int left = 23; left >= 0; left--) {
            T.due("undo()", x.undo(), left);
            T.due("count(4)", x.count(4), left);
        }
        T.due("undo() of no more", x.undo(), Check.STATE);
        T.due("count(4)", x.count(4), 0);
    }

    /** "of more the oldest is forgotten": by a throw, a run, a corner; and again after some were undone. */
    private static void actsAreForgottenFromTheOldestOn() {
        for (int last = 0; last < 3; last++) {
            HotPennies x = Check.told("law 0;child small 0 0 3;child big 5 4 9;");
            for (int cell = 1; cell <= 24; cell++) {
                x.run(0, cell);
            }
            T.due("the act of number 25", last == 0 ? x.toss(12, 0, 2, 1) : last == 1 ? x.run(0, 25) : x.corner(1, 0),
                    last == 1 ? 1 : 0);
            T.due("count(4)", x.count(4), 24);
            for (int left = 23; left >= 0; left--) {
                T.due("undo()", x.undo(), left);
                T.due("child(0, 0)", x.child(0, 0), left + 1);
            }
            T.due("undo() of the oldest", x.undo(), Check.STATE);
            T.due("child(0, 0)", x.child(0, 0), 1);
        }
        List<Integer> cells = new ArrayList<>(List.of(0));
        HotPennies x = Check.told("law 0;child small 0 0 3;");
        for (int round = 0; round < 4; round++) {
            runs(x, cells, 26 + round, 5 * round + 1);
            undos(x, cells, 7 + round);
        }
        runs(x, cells, 3, 2);
        undos(x, cells, x.count(4));
        T.due("undo()", x.undo(), Check.STATE);
    }

    private static void runs(HotPennies x, List<Integer> cells, int many, int by) {
        for (int k = 0; k < many; k++) {
            int cell = (cells.get(cells.size() - 1) + by) % 30;
            x.run(0, cell);
            cells.add(cell);
        }
    }

    private static void undos(HotPennies x, List<Integer> cells, int many) {
        for (int k = 0; k < many; k++) {
            int left = x.count(4) - 1;
            T.due("undo()", x.undo(), left);
            cells.remove(cells.size() - 1);
            T.due("child(0, 0)", x.child(0, 0), cells.get(cells.size() - 1));
        }
    }

    /** "each can be undone ..; also such by which nothing becomes another" */
    private static void actsByWhichNothingBecomesAnother() {
        HotPennies x = Check.told("law 0;drain 2 2;child small 0 0 3;child big 5 4 9;");
        T.due("a run to a cell", x.run(0, 1), 1);
        T.due("a run to where he is", x.run(0, 1), 0);
        T.due("count(4)", x.count(4), 2);
        T.due("a throw that nobody picks", x.toss(14, 0, 20, 1), 0);
        T.due("count(4)", x.count(4), 3);
        T.due("a corner of one who has nothing", x.corner(1, 0), 0);
        T.due("count(4)", x.count(4), 4);
        for (int left = 3; left >= 1; left--) {
            T.due("undo()", x.undo(), left);
            T.due("child(0, 0)", x.child(0, 0), 1);
        }
        T.due("undo()", x.undo(), 0);
        T.due("child(0, 0)", x.child(0, 0), 0);
        T.due("undo()", x.undo(), Check.STATE);
    }

    /** What is refused is no act; nor is what only asks. */
    private static void actsThatAreRefusedAreNotKept() {
        HotPennies x = Check.told("law 0;child small 0 0 3;child big 5 4 9;");
        x.run(0, 1);
        T.due("toss", x.toss(14, 3, 1, 1), Check.BAD);
        T.due("run", x.run(0, 30), Check.BAD);
        T.due("run", x.run(2, 0), Check.BAD);
        T.due("corner", x.corner(0, 1), Check.STATE);
        T.due("corner", x.corner(1, 1), Check.BAD);
        T.due("image", x.image(0), 1);
        T.due("ask", x.ask(0, 1), 1);
        T.due("stand", x.stand(0, 29, 0), 0);
        T.due("stand", x.stand(1, 2, 0), 1);
        T.due("count(4)", x.count(4), 1);
        T.due("undo()", x.undo(), 0);
        T.due("child(0, 0)", x.child(0, 0), 0);
    }

    /** "The latest ACT is undone": of each kind of act, the cells and the pennies of all. */
    private static void undoTheLatestFirst() {
        HotPennies x = Check.told("law 0;child small 0 0 3;child big 5 4 9;child glove 2 2 1;");
        x.toss(0, 0, 9, 1);
        x.toss(14, 0, 7, 1);
        x.corner(0, 2);
        x.corner(1, 0);
        x.run(2, 20);
        x.run(0, 29);
        int[][] due = {{0, 6, 4, 20, 6}, {0, 6, 4, 14, 6}, {0, 12, 4, 14, 0}, {0, 9, 7, 14, 0}, {0, 9, 0, 14, 0},
            {0, 0, 0, 14, 0}};
        for (int k = 0; k < due.length; k++) {
            T.due("undo()", x.undo(), 5 - k);
            T.due("child(0, 0)", x.child(0, 0), due[k][0]);
            T.due("child(0, 2)", x.child(0, 2), due[k][1]);
            T.due("child(2, 2)", x.child(2, 2), due[k][2]);
            T.due("child(2, 0)", x.child(2, 0), due[k][3]);
            T.due("child(1, 2)", x.child(1, 2), due[k][4]);
            T.due("child(1, 0)", x.child(1, 0), 29);
        }
        T.due("undo()", x.undo(), Check.STATE);
    }

    /** "undo: how many can be undone yet. STATE: none.": at first, after a square, after a restore. */
    private static void undoTellsHowManyAreLeft() {
        HotPennies x = new HotPennies();
        T.due("undo() of a new object", x.undo(), Check.STATE);
        Check.read(x, "law 0;child small 0 0 3;");
        T.due("undo() ahead of an act", x.undo(), Check.STATE);
        x.image(0);
        x.run(0, 1);
        x.restore(0);
        T.due("undo() after a restore", x.undo(), Check.STATE);
        x.run(0, 2);
        Check.read(x, "law 0;child small 0 0 3;");
        T.due("undo() after a square", x.undo(), Check.STATE);
        x.run(0, 3);
        x.run(0, 4);
        T.due("undo()", x.undo(), 1);
        T.due("undo()", x.undo(), 0);
        T.due("undo()", x.undo(), Check.STATE);
        T.due("child(0, 0)", x.child(0, 0), 0);
    }
}
