/**
 * The boundaries of images, kinds, asks, the trace, counts and status: sections 3 and 4 of the terms,
 * promises 25 to 32; and of a new object, promise 1.
 *
 * <p>Above each test stands the sentence that it holds.
 */
public final class AskedBoundsTest {
    private static final String[] SORTS = {"small", "big", "shy", "glove", "apron"};

    private static final Check T = new Check("AskedBoundsTest");

    public static void main(String[] args) {
        newObjectHasNoSquare();
        imageOfNoSquare();
        imageIsKept();
        imagesAreTwo();
        restoreOfNoneThatWasKept();
        restoreLeavesNoActToUndo();
        restoreLeavesTheRest();
        kindsAreOneToFive();
        kindsThatOneIs();
        kindsBeforeTheFirst();
        asLeavesTheKind();
        bodiesOfEachKind();
        bodiesWithLeastAndGreatestNumbers();
        asksAfterChanges();
        traceIsEmptyAheadOfAnAsk();
        traceStaysWhereItIsRefused();
        traceOfNoAsk();
        traceOfTheFirstSixteen();
        countRows();
        countChildrenDrainsHeat();
        countActs();
        countPennies();
        countBytes();
        countOfNoSquare();
        statusOfNone();
        statusOfTheLatest();
        statusStaysByRefusals();
        statusStaysByOtherCalls();
        T.end();
    }

    /** "HotPennies(): No SQUARE." "(none at first)" */
    private static void newObjectHasNoSquare() {
        HotPennies x = new HotPennies();
        T.due("toss", x.toss(0, 0, 1, 1), Check.STATE);
        T.due("cell", x.cell(0, 0), Check.STATE);
        T.due("rounds", x.rounds(0, 0, -1), Check.STATE);
        T.due("aim", x.aim(0, 0), Check.STATE);
        T.due("throwsFor", x.throwsFor(0, -1), Check.STATE);
        T.due("image", x.image(0), Check.STATE);
        T.due("restore", x.restore(0), Check.STATE);
        T.due("undo", x.undo(), Check.STATE);
        T.due("run", x.run(0, 0), Check.BAD);
        T.due("corner", x.corner(0, 1), Check.BAD);
        T.due("child", x.child(0, 0), Check.BAD);
        T.due("kind", x.kind(0), Check.BAD);
        T.due("fault", x.fault(), 0);
        T.due("status", x.status(), 0);
        T.due("trace", x.trace(0), Check.NONE);
        T.due("a square of nobody is a square", Check.read(x, "law 0;"), 0);
        T.due("toss", x.toss(0, 0, 1, 1), 0);
        T.due("image", x.image(0), 1);
    }

    /** "STATE: no SQUARE." */
    private static void imageOfNoSquare() {
        HotPennies x = new HotPennies();
        T.due("image(0)", x.image(0), Check.STATE);
        T.due("image(1)", x.image(1), Check.STATE);
        Check.read(x, "law 0");
        T.due("image(0) after a fault", x.image(0), Check.STATE);
        T.due("restore(0): none was kept by what was refused", x.restore(0), Check.STATE);
        Check.read(x, "law 0;");
        T.due("restore(0): none was kept by what was refused", x.restore(0), Check.STATE);
        T.due("image(0) of nobody", x.image(0), 1);
        T.due("restore(0)", x.restore(0), 1);
    }

    /** "An IMAGE .. is kept of the SQUARE": of all of it; later calls do not reach it, also after it was restored. */
    private static void imageIsKept() {
        HotPennies x = Check.told("law 3;drain 1 1;child glove 2 2 3;child big 0 0 4;");
        x.toss(14, 0, 6, 1);
        x.run(1, 7);
        T.due("image(0)", x.image(0), 1);
        for (int again = 0; again < 3; again++) {
            x.toss(14, 0, 4, 1);
            x.run(0, 29);
            x.corner(1, 0);
            T.due("undo()", x.undo(), again == 0 ? 4 : 2);
            if (again == 1) {
                Check.read(x, "law 9;drain 5 4;child shy 4 4 1;");
            }
            T.due("restore(0)", x.restore(0), 1);
            T.due("child(0, 0)", x.child(0, 0), 14);
            T.due("child(0, 1)", x.child(0, 1), 3);
            T.due("child(0, 2)", x.child(0, 2), 6);
            T.due("child(1, 0)", x.child(1, 0), 7);
            T.due("kind(1)", x.kind(1), 2);
            int[] counts = {0, 2, 1, 3, 0, 6, 0};
            for (int what = 0; what < counts.length; what++) {
                T.due("count(" + what + ")", x.count(what), counts[what]);
            }
            T.due("cell(7, 1)", x.cell(7, 1), 1);
            T.due("cell(29, 1)", x.cell(29, 1), 0);
        }
    }

    /** "An IMAGE (0, 1)": the two are apart, and a later one stands in place of the one before. */
    private static void imagesAreTwo() {
        HotPennies x = Check.told("law 0;child shy 0 0 1;");
        x.image(0);
        x.run(0, 5);
        x.image(1);
        x.run(0, 9);
        T.due("restore(0)", x.restore(0), 1);
        T.due("child(0, 0)", x.child(0, 0), 0);
        T.due("restore(1)", x.restore(1), 1);
        T.due("child(0, 0)", x.child(0, 0), 5);
        x.run(0, 12);
        x.image(0);
        x.restore(1);
        T.due("child(0, 0)", x.child(0, 0), 5);
        x.restore(0);
        T.due("child(0, 0)", x.child(0, 0), 12);
    }

    /** "restore: .. STATE: none was kept." */
    private static void restoreOfNoneThatWasKept() {
        for (int k = 0; k <= 1; k++) {
            HotPennies x = new HotPennies();
            T.due("restore(" + k + ") of a new object", x.restore(k), Check.STATE);
            Check.read(x, "law 0;child shy 0 0 1;");
            T.due("restore(" + k + ") of a square", x.restore(k), Check.STATE);
            T.due("image(" + (1 - k) + ")", x.image(1 - k), 1);
            T.due("restore(" + k + ") of the other image", x.restore(k), Check.STATE);
            T.due("restore(" + (1 - k) + ")", x.restore(1 - k), 1);
        }
    }

    /** "(no ACT can be undone then)": those after the image, and those ahead of it. */
    private static void restoreLeavesNoActToUndo() {
        HotPennies x = Check.told("law 0;child shy 0 0 1;");
        for (int cell = 1; cell <= 24; cell++) {
            x.run(0, cell);
        }
        x.image(0);
        T.due("count(4): an image leaves them", x.count(4), 24);
        T.due("restore(0)", x.restore(0), 1);
        T.due("count(4)", x.count(4), 0);
        T.due("undo()", x.undo(), Check.STATE);
        T.due("child(0, 0)", x.child(0, 0), 24);
        x.run(0, 3);
        T.due("undo()", x.undo(), 0);
        T.due("child(0, 0)", x.child(0, 0), 24);
    }

    /** Rows, the tape, the trace, fault() and status() are none of the SQUARE. */
    private static void restoreLeavesTheRest() {
        HotPennies x = Check.told("law 0;child shy 0 0 1;");
        x.image(0);
        Check.read(x, "law");
        Check.tellRow(x, 2, 4, 5);
        x.ask(0, 1);
        x.as(0, 4);
        Check.feed(x, "law 5;");
        T.due("restore(0)", x.restore(0), 1);
        T.due("count(0)", x.count(0), 1);
        T.due("count(6)", x.count(6), 6);
        T.due("trace(0)", x.trace(0), 22);
        T.due("fault()", x.fault(), 1);
        T.due("status()", x.status(), 3);
        T.due("stood", x.stood(2, 0, 2, 0, 1), Check.bits(4, 5));
        T.due("square()", x.square(), 0);
    }

    /** "The KIND of a CHILD, as told (1 to 5)", "1 SMALL .. 2 BIG .. 3 SHY .. 4 GLOVE .. 5 APRON" */
    private static void kindsAreOneToFive() {
        for (int kind = 1; kind <= 5; kind++) {
            HotPennies x = Check.told("law 0;child " + SORTS[kind - 1] + " 0 0 1;child " + SORTS[5 - kind] + " 0 0 1;");
            T.due("kind(0)", x.kind(0), kind);
            T.due("kind(1)", x.kind(1), 6 - kind);
        }
    }

    /**
     * "1 SMALL, a CHILD; 2 BIG, a SMALL one; 3 SHY, a SMALL one; 4 GLOVE, a CHILD; 5 APRON, a GLOVE one", "3 KIND (a
     * CHILD that is not that)"
     */
    private static void kindsThatOneIs() {
        int[][] is = {{1, 1, 0, 0, 0, 0}, {1, 1, 1, 0, 0, 0}, {1, 1, 0, 1, 0, 0}, {1, 0, 0, 0, 1, 0},
            {1, 0, 0, 0, 1, 1}};
        HotPennies x = Check.told("law 0;child small 0 0 1;child big 0 0 1;child shy 0 0 1;child glove 0 0 1;"
                + "child apron 0 0 1;");
        for (int c = 0; c < 5; c++) {
            for (int kind = 0; kind <= 5; kind++) {
                T.due("as(" + c + ", " + kind + ")", x.as(c, kind), is[c][kind] == 1 ? c : Check.KIND);
                T.due("status()", x.status(), is[c][kind] == 1 ? 0 : 3);
            }
        }
    }

    /** "(0 .. 5)": kind 0 is anybody, below 0 and above 5 there is none. */
    private static void kindsBeforeTheFirst() {
        HotPennies x = Check.told("law 0;child apron 0 0 1;");
        T.due("as(0, 0)", x.as(0, 0), 0);
        T.due("as(0, 5)", x.as(0, 5), 0);
        T.due("as(0, -1)", x.as(0, -1), Check.BAD);
        T.due("as(0, 6)", x.as(0, 6), Check.BAD);
        T.due("as(1, 0)", x.as(1, 0), Check.BAD);
        T.due("as(-1, 0)", x.as(-1, 0), Check.BAD);
    }

    /** A child that is taken as another kind is asked by his own. */
    private static void asLeavesTheKind() {
        HotPennies x = Check.told("law 0;child big 0 0 4;child apron 1 0 4;");
        x.as(0, 1);
        x.as(1, 4);
        T.due("kind(0)", x.kind(0), 2);
        T.due("kind(1)", x.kind(1), 5);
        T.due("power(0, 0)", x.power(0, 0), 16);
        T.due("ask(0, 1)", x.ask(0, 1), 0);
        T.due("trace(0)", x.trace(0), 24);
        T.due("ask(1, 0)", x.ask(1, 0), -192);
        T.due("trace(0)", x.trace(0), 14);
    }

    private static void dueAsk(HotPennies x, int child, int what, int answer, int... bodies) {
        String of = "ask(" + child + ", " + what + ")";
        T.due(of, x.ask(child, what), answer);
        for (int i = 0; i < 17; i++) {
            T.due("trace(" + i + ") of " + of, x.trace(i), i < bodies.length ? bodies[i] : Check.NONE);
        }
    }

    /**
     * "Of an ask the BODY told for the KIND begins, else that of the nearest KIND that it is, too, else the one that
     * is lent"
     */
    private static void bodiesOfEachKind() {
        for (int first = 0; first < 5; first++) {
            StringBuilder text = new StringBuilder("law 0;");
            for (int c = 0; c < 5; c++) {
                int sort = (first + c) % 5;
                text.append("child ").append(SORTS[sort]).append(' ').append(c).append(" 3 ").append(c + 2).append(';');
            }
            HotPennies x = Check.told(text.toString());
            for (int c = 0; c < 5; c++) {
                dueBodies(x, c, (first + c) % 5 + 1, c + 2, 18 + c);
            }
        }
    }

    private static void dueBodies(HotPennies x, int c, int kind, int s, int cell) {
        switch (kind) {
            case 1 -> {
                dueAsk(x, c, 0, s + c + cell, 11, 10, 21, 20);
                dueAsk(x, c, 1, c + cell, 21, 20);
            }
            case 2 -> {
                dueAsk(x, c, 0, 0 - (s + 2 * (c + cell)), 12, 11, 10, 24, 21, 20);
                dueAsk(x, c, 1, 2 * (c + cell), 24, 21, 20);
            }
            case 3 -> {
                dueAsk(x, c, 0, s + c + cell - 1000, 11, 10, 22, 21, 20);
                dueAsk(x, c, 1, c + cell - 1000, 22, 21, 20);
            }
            case 4 -> {
                dueAsk(x, c, 0, s - 100, 13, 10);
                dueAsk(x, c, 1, c - (s - 100), 23, 20, 13, 10);
            }
            default -> {
                dueAsk(x, c, 0, 2 * (s - 100), 14, 13, 10);
                dueAsk(x, c, 1, c - 2 * (s - 100), 23, 20, 14, 13, 10);
            }
        }
    }

    /** The least and the greatest STRENGTH and CELL. */
    private static void bodiesWithLeastAndGreatestNumbers() {
        for (int kind = 1; kind <= 5; kind++) {
            String sort = "child " + SORTS[kind - 1];
            HotPennies x = Check.told("law 20;" + sort + " 0 0 1;" + sort + " 5 4 9;");
            dueBodies(x, 0, kind, 1, 0);
            dueBodies(x, 1, kind, 9, 29);
        }
    }

    /** "21 of SMALL ones: .. and the CELL": where one is now. */
    private static void asksAfterChanges() {
        HotPennies x = Check.told("law 0;child small 0 0 3;child apron 1 0 4;");
        dueAsk(x, 0, 1, 0, 21, 20);
        x.run(0, 29);
        dueAsk(x, 0, 1, 29, 21, 20);
        dueAsk(x, 0, 0, 32, 11, 10, 21, 20);
        x.undo();
        dueAsk(x, 0, 0, 3, 11, 10, 21, 20);
        x.toss(1, 0, 9, 1);
        dueAsk(x, 1, 1, 1 + 192, 23, 20, 14, 13, 10);
    }

    /** "THE TRACE is empty ahead of it": nothing of a longer one stays. */
    private static void traceIsEmptyAheadOfAnAsk() {
        HotPennies x = Check.told("law 0;child big 0 0 3;child glove 1 0 4;");
        for (int again = 0; again < 5; again++) {
            dueAsk(x, 0, 0, -3, 12, 11, 10, 24, 21, 20);
            dueAsk(x, 1, 0, -96, 13, 10);
        }
    }

    /** "(where that is refused it stays)" */
    private static void traceStaysWhereItIsRefused() {
        HotPennies x = Check.told("law 0;child glove 1 0 4;");
        x.ask(0, 0);
        int[][] bad = {{-1, 0}, {1, 0}, {0, -1}, {0, 2}, {1, 2}, {-1, -1}};
        for (int[] b : bad) {
            T.due("ask(" + b[0] + ", " + b[1] + ")", x.ask(b[0], b[1]), Check.BAD);
            T.due("trace(0)", x.trace(0), 13);
            T.due("trace(1)", x.trace(1), 10);
            T.due("trace(2)", x.trace(2), Check.NONE);
        }
    }

    /** "Number i of THE TRACE; NONE.": where nothing was asked, it is empty; other calls leave it. */
    private static void traceOfNoAsk() {
        HotPennies x = Check.told("law 0;child glove 1 0 4;");
        for (int i = -2; i <= 17; i++) {
            T.due("trace(" + i + ") ahead of an ask", x.trace(i), Check.NONE);
        }
        x.ask(0, 0);
        x.run(0, 0);
        x.undo();
        x.image(0);
        x.restore(0);
        x.as(0, 4);
        Check.read(x, "law 3;");
        T.due("trace(0)", x.trace(0), 13);
        T.due("trace(1)", x.trace(1), 10);
        T.due("trace(2)", x.trace(2), Check.NONE);
    }

    /** "(the first 16)": no ask leaves more than six, so the rest is NONE. */
    private static void traceOfTheFirstSixteen() {
        HotPennies x = Check.told("law 0;child small 0 0 3;child big 0 0 3;child shy 0 0 3;child glove 0 0 3;"
                + "child apron 0 0 3;");
        for (int c = 0; c < 5; c++) {
            for (int what = 0; what <= 1; what++) {
                x.ask(c, what);
                T.due("trace(0) is there", x.trace(0) >= 10 ? 1 : 0, 1);
                for (int i = 6; i <= 17; i++) {
                    T.due("trace(" + i + ")", x.trace(i), Check.NONE);
                }
                T.due("trace(-1)", x.trace(-1), Check.NONE);
            }
        }
    }

    /** "0 ROWS": those that are not missing, 0 to 8. */
    private static void countRows() {
        HotPennies x = new HotPennies();
        for (int row = 7; row >= 0; row--) {
            T.due("count(0)", x.count(0), 7 - row);
            x.row(row, row % 3, 0);
            x.row(row, row % 3, 40);
        }
        T.due("count(0)", x.count(0), 8);
        for (int row = 0; row <= 7; row++) {
            x.drop(row);
            x.drop(row);
            T.due("count(0)", x.count(0), 7 - row);
        }
    }

    /** "1 CHILDREN, 2 CELLS with a drain, 3 HEAT": from the least to the greatest. */
    private static void countChildrenDrainsHeat() {
        for (int n = 0; n <= 5; n++) {
            T.due("count(1)", Check.told("law 9;" + "child shy 0 0 1;".repeat(n)).count(1), n);
        }
        StringBuilder drains = new StringBuilder();
        for (int n = 0; n <= 6; n++) {
            T.due("count(2)", Check.told("law 9;" + drains).count(2), n);
            drains.append("drain ").append(n % 6).append(" 4;");
        }
        T.due("count(2): a cell told twice is one", Check.told("law 9;drain 5 4;drain 0 0;drain 5 4;").count(2), 2);
        for (int heat = 0; heat <= 20; heat++) {
            T.due("count(3)", Check.told("law " + heat + ";").count(3), heat);
        }
    }

    /** "4 ACTS that can be undone": 0 to 24. */
    private static void countActs() {
        HotPennies x = Check.told("law 0;child shy 0 0 1;");
        for (int act = 0; act <= 30; act++) {
            T.due("count(4)", x.count(4), Math.min(act, 24));
            x.run(0, act % 30);
        }
        x.undo();
        T.due("count(4)", x.count(4), 23);
    }

    /** "5 pennies of all" */
    private static void countPennies() {
        HotPennies x = Check.told("law 0;child glove 0 0 1;child glove 2 0 1;child glove 4 0 1;child glove 0 4 1;"
                + "child glove 5 4 9;");
        int[] cells = {0, 2, 4, 24, 29};
        int sum = 0;
        for (int c = 0; c < 5; c++) {
            x.toss(cells[c], 0, 4 * c + 1, 1);
            sum += 4 * c + 1;
            T.due("count(5)", x.count(5), sum);
            T.due("child(" + c + ", 2)", x.child(c, 2), 4 * c + 1);
        }
        x.corner(4, 0);
        x.corner(4, 3);
        T.due("count(5) after corners", x.count(5), sum);
        x.toss(14, 0, 20, 1);
        T.due("count(5): what lies is lost", x.count(5), sum);
    }

    /** "6 bytes on the tape": 0 to 300. */
    private static void countBytes() {
        HotPennies x = new HotPennies();
        for (int n = 0; n < 300; n++) {
            T.due("count(6)", n % 3 == 0 ? x.count(6) : n, n);
            x.feed(32, 1);
        }
        T.due("count(6)", x.count(6), 300);
        x.feed(32, 1);
        T.due("count(6)", x.count(6), 300);
        x.square();
        T.due("count(6)", x.count(6), 0);
    }

    /** "1 CHILDREN .. 5 pennies of all": of no SQUARE there are none, nor is it hot. */
    private static void countOfNoSquare() {
        HotPennies x = new HotPennies();
        for (int what = 0; what <= 6; what++) {
            T.due("count(" + what + ")", x.count(what), 0);
        }
        T.due("count(7)", x.count(7), Check.BAD);
        T.due("count(-1)", x.count(-1), Check.BAD);
        Check.read(x, "law 9;drain 0 0;child shy 0 0 1;;");
        for (int what = 0; what <= 6; what++) {
            T.due("count(" + what + ") after a fault", x.count(what), 0);
        }
    }

    private static void due(HotPennies x, int answer, int due, int status) {
        T.due("a call with a ROW, or as()", answer, due);
        T.due("status() then", x.status(), status);
        T.due("status() again", x.status(), status);
    }

    private static HotPennies begun() {
        HotPennies x = Check.told("law 0;child shy 0 0 3;");
        Check.tellRow(x, 0, 14, 30, 14);
        x.row(1, 1, 3);
        return x;
    }

    /** "0: it had none, or there was none." */
    private static void statusOfNone() {
        HotPennies x = new HotPennies();
        T.due("status() at first", x.status(), 0);
        x.square();
        T.due("status() after a fault", x.status(), 0);
        due(x, x.row(9, 0, 0), Check.BAD, 0);
        due(x, x.row(0, 0, 0), 0, 0);
        due(x, x.set(0, 0, 0), Check.PLACE, 2);
        due(x, x.row(0, 0, 0), 0, 0);
        T.due("status() of another object", new HotPennies().status(), 0);
    }

    /** "Of the latest call with a ROW, or as() ..: the number of its FINDING": by each call, of each number. */
    private static void statusOfTheLatest() {
        HotPennies x = begun();
        due(x, x.row(2, 0, -1), Check.SIZE, 4);
        due(x, x.set(2, 0, 0), Check.NULL, 1);
        due(x, x.set(0, 3, 0), Check.PLACE, 2);
        due(x, x.copy(0, 0, 1, 0, 1), Check.STORE, 5);
        due(x, x.copy(0, 0, 2, 0, 1), Check.NULL, 1);
        due(x, x.copy(0, 0, 0, 1, 3), Check.PLACE, 2);
        due(x, x.as(0, 1), 0, 0);
        due(x, x.as(0, 2), Check.KIND, 3);
        due(x, x.drop(2), Check.NULL, 1);
        due(x, x.set(0, 0, 14), 14, 0);
        due(x, x.stood(2, 0, 1, 0, 0), Check.NULL, 1);
        due(x, x.copy(0, 0, 0, 1, 0), 0, 0);
        due(x, x.stood(0, 3, 1, 0, 0), Check.PLACE, 2);
        due(x, x.stood(0, 0, 1, 0, 1), Check.bits(14), 0);
        due(x, x.row(1, 1, -5), Check.SIZE, 4);
        due(x, x.drop(1), 3, 0);
    }

    /** "that was not BAD, STATE, FULL" */
    private static void statusStaysByRefusals() {
        for (int status : new int[] {0, 1, 2, 3, 4, 5}) {
            HotPennies x = begun();
            int[] due = {0, Check.NULL, Check.PLACE, Check.KIND, Check.SIZE, Check.STORE};
            int answer = switch (status) {
                case 0 -> x.copy(0, 0, 0, 0, 0);
                case 1 -> x.set(5, 0, 0);
                case 2 -> x.set(0, -1, 0);
                case 3 -> x.as(0, 2);
                case 4 -> x.row(0, 0, -1);
                default -> x.copy(0, 0, 1, 0, 0);
            };
            due(x, answer, due[status], status);
            due(x, x.row(8, 0, 0), Check.BAD, status);
            due(x, x.row(0, 3, 0), Check.BAD, status);
            due(x, x.row(0, 0, 41), Check.BAD, status);
            due(x, x.set(8, 0, 0), Check.BAD, status);
            due(x, x.copy(8, 0, 0, 0, 0), Check.BAD, status);
            due(x, x.copy(0, 0, -1, 0, 0), Check.BAD, status);
            due(x, x.drop(-1), Check.BAD, status);
            due(x, x.stood(8, 0, 0, 0, 0), Check.BAD, status);
            due(x, x.stood(0, 0, 21, 0, 0), Check.BAD, status);
            due(x, x.stood(0, 0, -1, 0, 0), Check.BAD, status);
            due(x, x.stood(0, 0, 1, 1, 0), Check.BAD, status);
            due(x, x.stood(0, 0, 1, 0, 21), Check.BAD, status);
            due(x, x.stood(0, 1, 1, 0, 0), Check.BAD, status);
            due(x, x.as(0, 6), Check.BAD, status);
            due(x, x.as(1, 0), Check.BAD, status);
        }
    }

    /** "Of the latest call with a ROW, or as()": no other call is told. */
    private static void statusStaysByOtherCalls() {
        for (int status = 0; status <= 4; status += 4) {
            HotPennies x = begun();
            T.due("row", x.row(1, 0, status == 0 ? 0 : -1), status == 0 ? 0 : Check.SIZE);
            Check.feed(x, "law");
            x.feed(0, 9);
            x.square();
            x.fault();
            Check.read(x, "law 1;child big 1 1 5;child shy 0 0 1;");
            T.due("status() after texts", x.status(), status);
            x.toss(7, 0, 3, 1);
            x.toss(7, 3, 3, 1);
            x.run(0, 8);
            x.run(0, 30);
            x.corner(0, 1);
            x.corner(1, 0);
            x.undo();
            T.due("status() after acts", x.status(), status);
            x.child(0, 0);
            x.child(9, 0);
            x.cell(0, 0);
            x.power(0, 0);
            x.mean(0, 0, 1, 0);
            x.some(0, 0, 1, 1, 0);
            x.stand(0, 0, 1);
            x.brothers(0, 1, 0, 1, 0);
            x.rounds(0, 0, 0);
            x.aim(0, 0);
            x.throwsFor(0, 0);
            x.cool(0, 0, 0);
            T.due("status() after what is foretold", x.status(), status);
            x.restore(0);
            x.image(0);
            x.restore(0);
            x.kind(0);
            x.kind(7);
            x.ask(0, 0);
            x.ask(7, 0);
            x.trace(0);
            x.count(0);
            T.due("status() after all others", x.status(), status);
        }
    }
}
