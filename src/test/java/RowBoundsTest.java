/**
 * The boundaries of rows: section 1 of the terms (its first paragraph), promises 2 to 5.
 *
 * <p>Above each test stands the sentence that it holds.
 */
public final class RowBoundsTest {
    private static final int MAX = Check.MAX, MIN = Check.MIN;
    /** A shy one picks where he stands alone: of one penny that he had, the row's item is told. */
    private static final String READER = "law 0;child shy 0 0 1;";

    private static final Check T = new Check("RowBoundsTest");

    public static void main(String[] args) {
        rowsAreZeroToSeven();
        rowsAreMissingAtFirst();
        lanesAreZeroToTwo();
        itemsAreNoughtToForty();
        itemsAreZeroAtFirst();
        rowStandsInPlaceOfWhatIsThere();
        rowOfFewerThanNone();
        setBecomesItsLowestBits();
        setKeepsWhatItAnswers();
        setWhereThereIsNoPlace();
        setOfARowThatIsMissing();
        copyComesAsItWasAhead();
        copyOfNoneAtTheEnds();
        copyUpToTheEnds();
        copyBeyondAnEnd();
        copyOfNumbersThatWrapAround();
        copyOfTwoLanes();
        copyOfARowThatIsMissing();
        dropTellsHowManyItHad();
        dropOfARowThatIsMissing();
        T.end();
    }

    /** The item of a place, if it is a cell. */
    private static int item(HotPennies x, int row, int i) {
        int bits = x.stood(row, i, 1, 0, 1);
        return bits > 0 && Integer.bitCount(bits) == 1 ? Integer.numberOfTrailingZeros(bits) : bits;
    }

    private static void dueItems(String of, HotPennies x, int row, int... items) {
        for (int i = 0; i < items.length; i++) {
            T.due(of + ": item " + i + " of row " + row, item(x, row, i), items[i]);
        }
        T.due(of + ": row " + row + " has no item " + items.length, item(x, row, items.length), Check.PLACE);
    }

    /** "ROWS 0 .. 7": of each call that has a row. "BAD: ROW" */
    private static void rowsAreZeroToSeven() {
        HotPennies x = Check.told(READER);
        T.bounds("row(.., 0, 1)", 0, 7, row -> x.row(row, 0, 1));
        T.due("count(0)", x.count(0), 8);
        T.bounds("set(.., 0, 1)", 0, 7, row -> x.set(row, 0, 1));
        T.bounds("copy(.., 0, 3, 0, 1)", 0, 7, row -> x.copy(row, 0, 3, 0, 1));
        T.bounds("copy(3, 0, .., 0, 1)", 0, 7, row -> x.copy(3, 0, row, 0, 1));
        T.bounds("stood(.., 0, 1, 0, 0)", 0, 7, row -> x.stood(row, 0, 1, 0, 0));
        T.bounds("drop(..)", 0, 7, row -> x.drop(row));
        T.due("count(0)", x.count(0), 0);
        for (int row = 0; row <= 7; row++) {
            T.due("row(" + row + ", 2, 1)", x.row(row, 2, 1), 1);
            T.due("set(" + row + ", 0, " + (10 + row) + ")", x.set(row, 0, 10 + row), 10 + row);
        }
        for (int row = 0; row <= 7; row++) {
            T.due("rows are apart: " + row, item(x, row, 0), 10 + row);
        }
    }

    /** "are missing (at first)" */
    private static void rowsAreMissingAtFirst() {
        for (int row = 0; row <= 7; row++) {
            HotPennies x = Check.told(READER);
            T.due("set of row " + row + " at first", x.set(row, 0, 0), Check.NULL);
            T.due("copy from row " + row + " at first", x.copy(row, 0, row, 0, 0), Check.NULL);
            T.due("stood in row " + row + " at first", x.stood(row, 0, 0, 0, 0), Check.NULL);
            T.due("drop of row " + row + " at first", x.drop(row), Check.NULL);
            T.due("count(0) at first", x.count(0), 0);
        }
    }

    /** "have a LANE (0 bytes, 1 shorts, 2 ints)". "BAD: .. LANE" */
    private static void lanesAreZeroToTwo() {
        HotPennies x = new HotPennies();
        T.bounds("row(0, .., 1)", 0, 2, lane -> x.row(0, lane, 1));
        int[] read = {-1, -32768 + 255, 65536 * 5 + 32768 + 255};
        for (int lane = 0; lane <= 2; lane++) {
            x.row(0, lane, 1);
            T.due("set in lane " + lane, x.set(0, 0, 65536 * 5 + 32768 + 255), read[lane]);
        }
    }

    /** "and 0 to 40 ITEMS". "A ROW of a LANE with n ITEMS ..: n. BAD: .. n above 40" */
    private static void itemsAreNoughtToForty() {
        HotPennies x = Check.told(READER);
        for (int lane = 0; lane <= 2; lane++) {
            for (int n = 0; n <= 40; n++) {
                T.due("row(1, " + lane + ", " + n + ")", x.row(1, lane, n), n);
            }
            T.due("set of the last of 40", x.set(1, 39, 1), 1);
            T.due("set beyond 40", x.set(1, 40, 1), Check.PLACE);
            for (int n : new int[] {41, 42, 256, 296, 65536, MAX}) {
                T.due("row(1, " + lane + ", " + n + ")", x.row(1, lane, n), Check.BAD);
                T.due("row(2, " + lane + ", " + n + ")", x.row(2, lane, n), Check.BAD);
            }
            T.due("row 1 stays as it is", item(x, 1, 39), 1);
            T.due("row 2 is missing yet", x.drop(2), Check.NULL);
            T.due("row(1, " + lane + ", 0)", x.row(1, lane, 0), 0);
            T.due("set of none", x.set(1, 0, 1), Check.PLACE);
            T.due("count(0): a row of none is there", x.count(0), 1);
        }
    }

    /** "0 to 40 ITEMS, 0 at first" */
    private static void itemsAreZeroAtFirst() {
        for (int lane = 0; lane <= 2; lane++) {
            HotPennies x = Check.told(READER);
            x.row(4, lane, 40);
            dueAllZero("a new row", x, 4);
            fill(x, 4);
            x.row(4, lane, 40);
            dueAllZero("a row in place of another", x, 4);
            fill(x, 4);
            x.drop(4);
            x.row(4, lane, 40);
            dueAllZero("a row after a drop", x, 4);
            fill(x, 4);
            x.row(4, lane, 20);
            x.row(4, lane, 40);
            dueAllZero("a row in place of a shorter one", x, 4);
        }
    }

    private static void fill(HotPennies x, int row) {
        for (int i = 0; i < 40; i++) {
            x.set(row, i, 29 - i % 3);
        }
    }

    private static void dueAllZero(String of, HotPennies x, int row) {
        T.due(of + ": items 0 to 19", x.stood(row, 0, 20, 0, 20), Check.bits(0));
        T.due(of + ": items 20 to 39", x.stood(row, 20, 20, 0, 20), Check.bits(0));
    }

    /** "A ROW .. in place of what is there": its lane, too, and how many items it has. */
    private static void rowStandsInPlaceOfWhatIsThere() {
        HotPennies x = Check.told(READER);
        x.row(0, 2, 3);
        x.set(0, 0, 7);
        x.row(1, 0, 3);
        T.due("copy of two lanes", x.copy(0, 0, 1, 0, 3), Check.STORE);
        T.due("row(0, 0, 2) in place of it", x.row(0, 0, 2), 2);
        dueItems("a row in place of a longer one", x, 0, 0, 0);
        T.due("copy of one lane now", x.copy(0, 0, 1, 0, 2), 2);
        T.due("set in the lane of now", x.set(0, 0, 128), -128);
        T.due("row(0, 2, 5) in place of it", x.row(0, 2, 5), 5);
        dueItems("a row in place of a shorter one", x, 0, 0, 0, 0, 0, 0);
        T.due("set in the lane of now", x.set(0, 4, 128), 128);
        T.due("count(0)", x.count(0), 2);
        T.due("drop(0)", x.drop(0), 5);
    }

    /** "4 SIZE (fewer than none)". "row: .. SIZE" */
    private static void rowOfFewerThanNone() {
        HotPennies x = Check.told(READER);
        Check.tellRow(x, 3, 5, 6);
        for (int n : new int[] {-1, -2, -40, -41, -256, -65536, MIN, MIN + 1, MIN + 3}) {
            x.set(3, 0, 5);
            T.due("row(3, 1, " + n + ")", x.row(3, 1, n), Check.SIZE);
            T.due("status()", x.status(), 4);
            T.due("row(2, 2, " + n + ") of one that is missing", x.row(2, 2, n), Check.SIZE);
            T.due("it is missing yet", x.drop(2), Check.NULL);
        }
        dueItems("row 3 as it was", x, 3, 5, 6);
        T.due("set in the lane of row 3 as it was", x.set(3, 0, MAX), MAX);
    }

    /** "ITEM i becomes v, its lowest bits, as many as the LANE has (read with their sign): what it is then." */
    private static void setBecomesItsLowestBits() {
        int[][] bytes = {{0, 0}, {127, 127}, {128, -128}, {129, -127}, {255, -1}, {256, 0}, {257, 1}, {383, 127},
            {384, -128}, {-1, -1}, {-128, -128}, {-129, 127}, {-255, 1}, {-256, 0}, {-257, -1}, {32767, -1},
            {32768, 0}, {65535, -1}, {65664, -128}, {MAX, -1}, {MIN, 0}, {MIN + 128, -128}};
        int[][] shorts = {{0, 0}, {127, 127}, {128, 128}, {255, 255}, {256, 256}, {32767, 32767}, {32768, -32768},
            {32769, -32767}, {65535, -1}, {65536, 0}, {65537, 1}, {98303, 32767}, {98304, -32768}, {-1, -1},
            {-32768, -32768}, {-32769, 32767}, {-65535, 1}, {-65536, 0}, {-65537, -1}, {MAX, -1}, {MIN, 0},
            {MIN + 32768, -32768}};
        int[][] ints = {{0, 0}, {127, 127}, {128, 128}, {-129, -129}, {32768, 32768}, {-32769, -32769},
            {65536, 65536}, {1 << 30, 1 << 30}, {MAX, MAX}, {MIN, MIN}, {-1, -1}};
        dueBits(0, bytes);
        dueBits(1, shorts);
        dueBits(2, ints);
    }

    private static void dueBits(int lane, int[][] pairs) {
        HotPennies x = new HotPennies();
        x.row(6, lane, 3);
        for (int[] pair : pairs) {
            T.due("set(6, 1, " + pair[0] + ") in lane " + lane, x.set(6, 1, pair[0]), pair[1]);
            T.due("status()", x.status(), 0);
        }
    }

    /** "ITEM i becomes v .. what it is then": the item is what is told, and no other item is another one. */
    private static void setKeepsWhatItAnswers() {
        HotPennies x = Check.told(READER);
        x.row(0, 0, 4);
        T.due("set(0, 1, 256 + 14)", x.set(0, 1, 256 + 14), 14);
        T.due("set(0, 2, 65536 - 256 + 29)", x.set(0, 2, 65536 - 256 + 29), 29);
        T.due("set(0, 3, MIN + 7)", x.set(0, 3, MIN + 7), 7);
        dueItems("bytes", x, 0, 0, 14, 29, 7);
        x.row(1, 1, 4);
        T.due("set(1, 0, 65536 + 14)", x.set(1, 0, 65536 + 14), 14);
        T.due("set(1, 2, 256 + 14)", x.set(1, 2, 256 + 14), 270);
        T.due("set(1, 3, -65536 + 29)", x.set(1, 3, -65536 + 29), 29);
        dueItems("shorts", x, 1, 14, 0, Check.BAD, 29);
        x.row(2, 2, 3);
        T.due("set(2, 1, 65536 + 14)", x.set(2, 1, 65536 + 14), 65550);
        T.due("set(2, 2, 14)", x.set(2, 2, 14), 14);
        T.due("set(2, 2, 15) anew", x.set(2, 2, 15), 15);
        dueItems("ints", x, 2, 0, Check.BAD, 15);
    }

    /** "2 PLACE (no such place of a ROW)". "set: .. PLACE" */
    private static void setWhereThereIsNoPlace() {
        HotPennies x = Check.told(READER);
        for (int n : new int[] {0, 1, 2, 39, 40}) {
            x.row(5, 2, n);
            for (int i : new int[] {-1, -2, n, n + 1, 40, 41, 256, 1 << 30, MAX, MIN}) {
                if (i < 0 || i >= n) {
                    T.due("set(5, " + i + ", 3) of " + n, x.set(5, i, 3), Check.PLACE);
                    T.due("status()", x.status(), 2);
                }
            }
            if (n > 0) {
                T.due("set(5, " + (n - 1) + ", 3) of " + n, x.set(5, n - 1, 3), 3);
                T.due("item " + (n - 1), item(x, 5, n - 1), 3);
                T.due("set(5, 0, 4) of " + n, x.set(5, 0, 4), 4);
                T.due("item 0", item(x, 5, 0), 4);
            }
        }
    }

    /** "1 NULL (a ROW that is missing)". "set: .. NULL" */
    private static void setOfARowThatIsMissing() {
        HotPennies x = new HotPennies();
        T.due("set(7, 0, 0) at first", x.set(7, 0, 0), Check.NULL);
        x.row(7, 0, 3);
        T.due("set(7, 0, 5)", x.set(7, 0, 5), 5);
        x.drop(7);
        T.due("set(7, 0, 0) after a drop", x.set(7, 0, 0), Check.NULL);
        T.due("status()", x.status(), 1);
    }

    /** "n ITEMS of a from i on come to b from j on, as they were ahead: n." */
    private static void copyComesAsItWasAhead() {
        for (int lane = 0; lane <= 2; lane++) {
            for (int i = 0; i <= 4; i++) {
                dueShift(lane, i, 4 - i, 2);
                dueShift(lane, i, 2, 2);
                dueShift(lane, Math.min(i, 3), 0, 3);
                dueShift(lane, 0, Math.min(i, 3), 3);
            }
            dueShift(lane, 0, 0, 6);
        }
        HotPennies x = Check.told(READER);
        Check.tellRow(x, 0, 11, 12, 13);
        Check.tellRow(x, 1, 21, 22, 23, 24);
        T.due("copy(0, 1, 1, 0, 2)", x.copy(0, 1, 1, 0, 2), 2);
        dueItems("what is copied stays", x, 0, 11, 12, 13);
        dueItems("what is copied to", x, 1, 12, 13, 23, 24);
        x.set(0, 1, 5);
        dueItems("the two are apart", x, 1, 12, 13, 23, 24);
    }

    /** Copies within a row of six items, 10 to 15. */
    private static void dueShift(int lane, int i, int j, int n) {
        HotPennies x = Check.told(READER);
        x.row(3, lane, 6);
        int[] due = new int[6];
        for (int k = 0; k < 6; k++) {
            due[k] = x.set(3, k, 10 + k);
        }
        for (int k = 0; k < n; k++) {
            due[j + k] = 10 + i + k;
        }
        String of = "copy(3, " + i + ", 3, " + j + ", " + n + ") of lane " + lane;
        T.due(of, x.copy(3, i, 3, j, n), n);
        dueItems(of, x, 3, due);
    }

    /** "n ITEMS": none of them, at the ends, too. */
    private static void copyOfNoneAtTheEnds() {
        HotPennies x = Check.told(READER);
        Check.tellRow(x, 0, 11, 12, 13);
        Check.tellRow(x, 1, 21, 22);
        x.row(2, 2, 0);
        T.due("copy(0, 0, 1, 0, 0)", x.copy(0, 0, 1, 0, 0), 0);
        T.due("copy(0, 3, 1, 2, 0)", x.copy(0, 3, 1, 2, 0), 0);
        T.due("copy(2, 0, 1, 2, 0)", x.copy(2, 0, 1, 2, 0), 0);
        T.due("copy(2, 0, 2, 0, 0)", x.copy(2, 0, 2, 0, 0), 0);
        T.due("status()", x.status(), 0);
        T.due("copy(0, 4, 1, 0, 0)", x.copy(0, 4, 1, 0, 0), Check.PLACE);
        T.due("copy(0, 0, 1, 3, 0)", x.copy(0, 0, 1, 3, 0), Check.PLACE);
        T.due("copy(2, 1, 2, 0, 0)", x.copy(2, 1, 2, 0, 0), Check.PLACE);
        T.due("copy(2, 0, 2, 1, 0)", x.copy(2, 0, 2, 1, 0), Check.PLACE);
        T.due("copy(2, 0, 2, 0, 1)", x.copy(2, 0, 2, 0, 1), Check.PLACE);
        dueItems("none came", x, 1, 21, 22);
    }

    /** The last good numbers of "beyond an end", at the end of a, of b, of both; all of 40. */
    private static void copyUpToTheEnds() {
        HotPennies x = Check.told(READER);
        Check.tellRow(x, 0, 11, 12, 13);
        Check.tellRow(x, 1, 21, 22, 23, 24, 25);
        T.due("copy(0, 1, 1, 0, 2) to the end of a", x.copy(0, 1, 1, 0, 2), 2);
        dueItems("to the end of a", x, 1, 12, 13, 23, 24, 25);
        T.due("copy(0, 0, 1, 3, 2) to the end of b", x.copy(0, 0, 1, 3, 2), 2);
        dueItems("to the end of b", x, 1, 12, 13, 23, 11, 12);
        T.due("copy(0, 0, 1, 2, 3) to both ends", x.copy(0, 0, 1, 2, 3), 3);
        dueItems("to both ends", x, 1, 12, 13, 11, 12, 13);
        T.due("copy(0, 2, 1, 4, 1) of the last", x.copy(0, 2, 1, 4, 1), 1);
        x.row(2, 2, 40);
        fill(x, 2);
        x.row(3, 2, 40);
        T.due("copy(2, 0, 3, 0, 40)", x.copy(2, 0, 3, 0, 40), 40);
        T.due("the last of 40", item(x, 3, 39), 29);
        T.due("the last but one of 40", item(x, 3, 38), 27);
        T.due("the first of 40", item(x, 3, 0), 29);
    }

    /** "PLACE (i, j, n below 0, or beyond an end)" */
    private static void copyBeyondAnEnd() {
        HotPennies x = Check.told(READER);
        Check.tellRow(x, 0, 11, 12, 13);
        Check.tellRow(x, 1, 21, 22, 23, 24, 25);
        int[][] places = {{-1, 0, 1}, {0, -1, 1}, {0, 0, -1}, {-1, 0, 0}, {0, -1, 0}, {1, 1, -1}, {3, 0, 1},
            {2, 0, 2}, {1, 0, 3}, {0, 0, 4}, {0, 5, 1}, {0, 4, 2}, {0, 3, 3}, {0, 2, 4}, {3, 5, 1}, {4, 0, 0},
            {0, 6, 0}, {4, 0, -1}, {0, 6, -1}, {-1, -1, -1}};
        for (int[] p : places) {
            x.set(0, 0, 11);
            T.due("copy(0, " + p[0] + ", 1, " + p[1] + ", " + p[2] + ")", x.copy(0, p[0], 1, p[1], p[2]), Check.PLACE);
            T.due("status()", x.status(), 2);
        }
        int[][] back = {{3, 0, 3}, {4, 2, 2}, {5, 0, 1}, {0, 0, 4}, {2, 1, 3}, {1, 3, 1}};
        for (int[] p : back) {
            T.due("copy(1, " + p[0] + ", 0, " + p[1] + ", " + p[2] + ")", x.copy(1, p[0], 0, p[1], p[2]), Check.PLACE);
        }
        dueItems("nothing came", x, 0, 11, 12, 13);
        dueItems("nothing came", x, 1, 21, 22, 23, 24, 25);
    }

    /** "beyond an end": also where i and n, j and n together wrap around. */
    private static void copyOfNumbersThatWrapAround() {
        HotPennies x = Check.told(READER);
        Check.tellRow(x, 0, 11, 12, 13);
        Check.tellRow(x, 1, 21, 22, 23);
        int[] far = {MAX, MAX - 1, MAX - 2, MIN, MIN + 1, MIN + 2, 1 << 30, 256, 65536, -256, -65536};
        for (int v : far) {
            T.due("copy(0, " + v + ", 1, 0, 1)", x.copy(0, v, 1, 0, 1), Check.PLACE);
            T.due("copy(0, 0, 1, " + v + ", 1)", x.copy(0, 0, 1, v, 1), Check.PLACE);
            T.due("copy(0, 0, 1, 0, " + v + ")", x.copy(0, 0, 1, 0, v), Check.PLACE);
            T.due("copy(0, 2, 1, 2, " + v + ")", x.copy(0, 2, 1, 2, v), Check.PLACE);
            for (int w : far) {
                T.due("copy(0, " + v + ", 1, 0, " + w + ")", x.copy(0, v, 1, 0, w), Check.PLACE);
                T.due("copy(0, 0, 1, " + v + ", " + w + ")", x.copy(0, 0, 1, v, w), Check.PLACE);
            }
        }
        dueItems("nothing came", x, 1, 21, 22, 23);
    }

    /** "5 STORE (ROWS of two LANES)". "copy: .. STORE": also of no items, and though all fits. */
    private static void copyOfTwoLanes() {
        HotPennies x = new HotPennies();
        for (int lane = 0; lane <= 2; lane++) {
            x.row(lane, lane, 3);
            x.row(4 + lane, lane, 3);
        }
        for (int a = 0; a <= 2; a++) {
            for (int b = 0; b <= 2; b++) {
                x.set(0, 0, 1);
                T.due("copy of lanes " + a + ", " + b, x.copy(a, 0, 4 + b, 0, 1), a == b ? 1 : Check.STORE);
                T.due("status()", x.status(), a == b ? 0 : 5);
                T.due("copy of no items of lanes " + a + ", " + b, x.copy(a, 0, 4 + b, 0, 0), a == b ? 0 : Check.STORE);
            }
        }
    }

    /** "copy: .. NULL": the one, the other, both, the same. */
    private static void copyOfARowThatIsMissing() {
        HotPennies x = new HotPennies();
        x.row(0, 0, 3);
        T.due("copy(1, 0, 0, 0, 1)", x.copy(1, 0, 0, 0, 1), Check.NULL);
        T.due("copy(0, 0, 1, 0, 1)", x.copy(0, 0, 1, 0, 1), Check.NULL);
        T.due("copy(1, 0, 2, 0, 1)", x.copy(1, 0, 2, 0, 1), Check.NULL);
        T.due("copy(1, 0, 1, 0, 0)", x.copy(1, 0, 1, 0, 0), Check.NULL);
        T.due("status()", x.status(), 1);
        T.due("count(0): none has come to be", x.count(0), 1);
        x.row(1, 0, 3);
        T.due("copy(0, 0, 1, 0, 1)", x.copy(0, 0, 1, 0, 1), 1);
        x.drop(0);
        T.due("copy(0, 0, 1, 0, 1) after a drop", x.copy(0, 0, 1, 0, 1), Check.NULL);
    }

    /** "A ROW is missing from now on: how many ITEMS it had." */
    private static void dropTellsHowManyItHad() {
        HotPennies x = new HotPennies();
        for (int n : new int[] {0, 1, 39, 40}) {
            x.row(7, 1, n);
            x.row(6, 1, 3);
            T.due("drop(7) of " + n, x.drop(7), n);
            T.due("status()", x.status(), 0);
            T.due("set(7, 0, 0)", x.set(7, 0, 0), Check.NULL);
            T.due("set(6, 2, 9): another row stays", x.set(6, 2, 9), 9);
            T.due("count(0)", x.count(0), 1);
        }
    }

    /** "drop: .. BAD; NULL." */
    private static void dropOfARowThatIsMissing() {
        HotPennies x = new HotPennies();
        T.due("drop(0)", x.drop(0), Check.NULL);
        T.due("status()", x.status(), 1);
        x.row(0, 0, 0);
        T.due("drop(0) of no items", x.drop(0), 0);
        T.due("drop(0) again", x.drop(0), Check.NULL);
        T.due("drop(8)", x.drop(8), Check.BAD);
        T.due("drop(-1)", x.drop(-1), Check.BAD);
    }
}
