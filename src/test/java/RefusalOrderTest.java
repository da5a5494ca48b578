/**
 * "Refusals are answers, the first of these that fits, but as told: BAD .., STATE (as told), FULL (as told), then
 * FINDINGS, of several the first in time": a call that two of them fit, for each two that a call can have.
 *
 * <p>Those of toss and corner with FULL stand in ActBoundsTest, those of the tape's faults in TapeBoundsTest.
 */
public final class RefusalOrderTest {
    private static final int MAX = Check.MAX, MIN = Check.MIN;

    private static final Check T = new Check("RefusalOrderTest");

    public static void main(String[] args) {
        numbersOfTheRefusals();
        rowBadAheadOfSize();
        setBadNullPlace();
        copyBadAheadOfAll();
        copyNullAheadOfStoreAndPlace();
        copyStoreAheadOfPlace();
        dropBadNull();
        feedBadAheadOfFull();
        stateAheadOfBad();
        badWhereThereIsNoSquare();
        cornerBadAheadOfState();
        stoodBadAheadOfAll();
        stoodNullAheadOfPlace();
        stoodPlaceAheadOfItems();
        imageBadAheadOfState();
        restoreBadAheadOfState();
        asBadAheadOfKind();
        throwsForBadAheadOfNone();
        T.end();
    }

    private static HotPennies two() {
        return Check.told("law 0;child small 0 0 3;child shy 5 4 9;");
    }

    /** "-1000010 less 1 NULL .., 2 PLACE .., 3 KIND .., 4 SIZE .., 5 STORE", and the constants of the face. */
    private static void numbersOfTheRefusals() {
        T.due("NONE", HotPennies.NONE, -1000000);
        T.due("BAD", HotPennies.BAD, -1000001);
        T.due("STATE", HotPennies.STATE, -1000002);
        T.due("FULL", HotPennies.FULL, -1000003);
        HotPennies x = two();
        T.due("NULL", x.drop(0), -1000011);
        x.row(0, 0, 1);
        x.row(1, 1, 1);
        T.due("PLACE", x.set(0, 1, 1), -1000012);
        T.due("KIND", x.as(0, 2), -1000013);
        T.due("SIZE", x.row(0, 0, -1), -1000014);
        T.due("STORE", x.copy(0, 0, 1, 0, 1), -1000015);
        T.due("BAD", x.set(8, 0, 0), -1000001);
        T.due("STATE", x.undo(), -1000002);
        Check.feed(x, " ".repeat(300));
        T.due("FULL", x.feed(0, 1), -1000003);
        T.due("NONE", x.trace(0), -1000000);
    }

    /** "row: BAD: ROW, LANE, n above 40; SIZE." */
    private static void rowBadAheadOfSize() {
        HotPennies x = new HotPennies();
        int[][] bad = {{8, 0, -1}, {-1, 0, -1}, {0, 3, -1}, {0, -1, -1}, {8, 3, MIN}, {MIN, MAX, MIN}, {7, 3, -40}};
        for (int[] b : bad) {
            T.due("row(" + b[0] + ", " + b[1] + ", " + b[2] + ")", x.row(b[0], b[1], b[2]), Check.BAD);
            T.due("status()", x.status(), 0);
        }
        T.due("row(0, 0, -1)", x.row(0, 0, -1), Check.SIZE);
    }

    /** "set: BAD: ROW; NULL; PLACE." */
    private static void setBadNullPlace() {
        HotPennies x = new HotPennies();
        for (int i : new int[] {-1, 0, 40, MAX, MIN}) {
            T.due("set(8, " + i + ", 0)", x.set(8, i, 0), Check.BAD);
            T.due("set(-1, " + i + ", 0)", x.set(-1, i, 0), Check.BAD);
            T.due("set(0, " + i + ", 0) of one that is missing", x.set(0, i, 0), Check.NULL);
        }
        x.row(0, 0, 0);
        T.due("set(0, 0, 0) of no items", x.set(0, 0, 0), Check.PLACE);
    }

    /** "copy: BAD: ROWS; NULL; STORE; PLACE" */
    private static void copyBadAheadOfAll() {
        HotPennies x = new HotPennies();
        x.row(0, 0, 3);
        x.row(1, 1, 3);
        for (int bad : new int[] {-1, 8, MAX, MIN}) {
            T.due("BAD ahead of NULL", x.copy(bad, 0, 7, 0, 1), Check.BAD);
            T.due("BAD ahead of NULL", x.copy(7, 0, bad, 0, 1), Check.BAD);
            T.due("BAD ahead of PLACE", x.copy(bad, -1, 0, -1, -1), Check.BAD);
            T.due("BAD ahead of PLACE", x.copy(0, -1, bad, -1, -1), Check.BAD);
            T.due("BAD ahead of NULL and PLACE", x.copy(7, 9, bad, 9, 9), Check.BAD);
        }
        T.due("status()", x.status(), 0);
    }

    private static void copyNullAheadOfStoreAndPlace() {
        HotPennies x = new HotPennies();
        for (int lane = 0; lane <= 2; lane++) {
            x.row(0, lane, 3);
            T.due("NULL of a: no lane", x.copy(7, 0, 0, 0, 1), Check.NULL);
            T.due("NULL of b: no lane", x.copy(0, 0, 7, 0, 1), Check.NULL);
            T.due("NULL ahead of PLACE", x.copy(7, -1, 0, -1, -1), Check.NULL);
            T.due("NULL ahead of PLACE", x.copy(0, -1, 7, 9, 4), Check.NULL);
            T.due("NULL ahead of PLACE", x.copy(0, 4, 7, 0, 0), Check.NULL);
            x.row(7, 2 - lane, 3);
            x.drop(7);
            T.due("NULL, whatever lane it had", x.copy(0, 0, 7, 0, 1), Check.NULL);
            T.due("NULL, whatever lane it had", x.copy(7, 0, 0, 0, 1), Check.NULL);
        }
    }

    private static void copyStoreAheadOfPlace() {
        HotPennies x = new HotPennies();
        x.row(0, 0, 3);
        x.row(1, 1, 3);
        x.row(2, 2, 0);
        int[][] places = {{-1, 0, 1}, {0, -1, 1}, {0, 0, -1}, {3, 0, 1}, {0, 3, 1}, {0, 0, 4}, {MAX, MAX, MAX},
            {0, 0, 0}};
        for (int[] p : places) {
            T.due("STORE ahead of PLACE", x.copy(0, p[0], 1, p[1], p[2]), Check.STORE);
            T.due("STORE ahead of PLACE", x.copy(1, p[0], 2, p[1], p[2]), Check.STORE);
            T.due("STORE ahead of PLACE", x.copy(2, p[0], 0, p[1], p[2]), Check.STORE);
        }
    }

    private static void dropBadNull() {
        HotPennies x = new HotPennies();
        T.due("drop(8)", x.drop(8), Check.BAD);
        T.due("drop(-1)", x.drop(-1), Check.BAD);
        T.due("drop(7)", x.drop(7), Check.NULL);
    }

    /** "feed: BAD: n; FULL" */
    private static void feedBadAheadOfFull() {
        HotPennies x = new HotPennies();
        Check.feed(x, " ".repeat(300));
        for (int n : new int[] {0, 9, -1, 256, 301, MAX, MIN}) {
            T.due("feed(32, " + n + ") on a full tape", x.feed(32, n), Check.BAD);
        }
        for (int n = 1; n <= 8; n++) {
            T.due("feed(32, " + n + ") on a full tape", x.feed(32, n), Check.FULL);
        }
        T.due("count(6)", x.count(6), 300);
    }

    /** "STATE: no SQUARE (ahead of BAD)": toss, cell, rounds, aim, throwsFor. */
    private static void stateAheadOfBad() {
        HotPennies x = new HotPennies();
        int[] odd = {-2, -1, 0, 1, 2, 3, 29, 30, MAX, MIN};
        for (int v : odd) {
            T.due("toss of no SQUARE", x.toss(v, 0, 1, 1), Check.STATE);
            T.due("toss of no SQUARE", x.toss(0, v, 1, 1), Check.STATE);
            T.due("toss of no SQUARE", x.toss(0, 0, v, 1), Check.STATE);
            T.due("toss of no SQUARE", x.toss(0, 0, 1, v), Check.STATE);
            T.due("cell of no SQUARE", x.cell(v, 0), Check.STATE);
            T.due("cell of no SQUARE", x.cell(0, v), Check.STATE);
            T.due("rounds of no SQUARE", x.rounds(v, 0, -1), Check.STATE);
            T.due("rounds of no SQUARE", x.rounds(0, v, -1), Check.STATE);
            T.due("rounds of no SQUARE", x.rounds(0, 0, v), Check.STATE);
            T.due("aim of no SQUARE", x.aim(v, 0), Check.STATE);
            T.due("aim of no SQUARE", x.aim(0, v), Check.STATE);
            T.due("throwsFor of no SQUARE", x.throwsFor(v, -1), Check.STATE);
            T.due("throwsFor of no SQUARE", x.throwsFor(0, v), Check.STATE);
        }
        T.due("count(4)", x.count(4), 0);
    }

    /** "BAD (.. there is no such thing)": where there is no SQUARE there is no CHILD; no STATE is told of these. */
    private static void badWhereThereIsNoSquare() {
        HotPennies x = new HotPennies();
        x.row(0, 0, 1);
        for (int c : new int[] {-1, 0, 1, 5}) {
            T.due("run", x.run(c, 0), Check.BAD);
            T.due("corner", x.corner(c, 1 - c), Check.BAD);
            T.due("child", x.child(c, 0), Check.BAD);
            T.due("power", x.power(c, 0), Check.BAD);
            T.due("mean", x.mean(c, 0, 0, 0), Check.BAD);
            T.due("some", x.some(c, 0, 0, 0, 0), Check.BAD);
            T.due("stand", x.stand(c, 0, 0), Check.BAD);
            T.due("brothers", x.brothers(c, 1 - c, 0, 0, 0), Check.BAD);
            T.due("cool", x.cool(c, 0, 0), Check.BAD);
            T.due("stood", x.stood(0, 0, 0, c, 0), Check.BAD);
            T.due("kind", x.kind(c), Check.BAD);
            T.due("as", x.as(c, 0), Check.BAD);
            T.due("ask", x.ask(c, 0), Check.BAD);
        }
    }

    /** "corner: BAD: alike, too; STATE: the other one has no less STRENGTH" */
    private static void cornerBadAheadOfState() {
        HotPennies x = two();
        T.due("corner(0, 1)", x.corner(0, 1), Check.STATE);
        T.due("corner(0, 0), alike", x.corner(0, 0), Check.BAD);
        T.due("corner(1, 1), alike", x.corner(1, 1), Check.BAD);
        T.due("corner(0, 2)", x.corner(0, 2), Check.BAD);
        T.due("corner(2, 1)", x.corner(2, 1), Check.BAD);
        T.due("corner(-1, 1)", x.corner(-1, 1), Check.BAD);
        T.due("corner(1, 0)", x.corner(1, 0), 0);
    }

    /** "stood: BAD: ROW, n, CHILD, how many; NULL; PLACE; then BAD: an ITEM that is no CELL." */
    private static void stoodBadAheadOfAll() {
        HotPennies x = two();
        Check.tellRow(x, 0, 30, 14);
        int[][] bad = {{21, 0, 0}, {-1, 0, 0}, {MIN, 0, 0}, {MAX, 0, 0}, {1, 2, 0}, {1, -1, 0}, {1, 0, 21}, {1, 0, -1}};
        for (int[] b : bad) {
            T.due("BAD ahead of NULL", x.stood(7, 0, b[0], b[1], b[2]), Check.BAD);
            T.due("BAD ahead of NULL and PLACE", x.stood(7, -1, b[0], b[1], b[2]), Check.BAD);
            T.due("BAD ahead of PLACE", x.stood(0, 3, b[0], b[1], b[2]), Check.BAD);
            T.due("BAD ahead of PLACE", x.stood(0, -1, b[0], b[1], b[2]), Check.BAD);
        }
        T.due("BAD of the row ahead of PLACE", x.stood(8, -1, 1, 0, 0), Check.BAD);
        T.due("status()", x.status(), 0);
    }

    private static void stoodNullAheadOfPlace() {
        HotPennies x = two();
        for (int i : new int[] {-1, 0, 1, 40, MAX, MIN}) {
            T.due("stood(7, " + i + ", 1, 0, 0)", x.stood(7, i, 1, 0, 0), Check.NULL);
            T.due("stood(7, " + i + ", 0, 0, 0)", x.stood(7, i, 0, 0, 0), Check.NULL);
        }
        x.row(7, 0, 0);
        T.due("stood(7, 0, 1, 0, 0) of no items", x.stood(7, 0, 1, 0, 0), Check.PLACE);
        T.due("stood(7, 0, 0, 0, 0) of no items", x.stood(7, 0, 0, 0, 0), (1 << 30) - 1);
    }

    private static void stoodPlaceAheadOfItems() {
        HotPennies x = two();
        Check.tellRow(x, 0, 30, 14, -1);
        T.due("PLACE ahead of an item", x.stood(0, 0, 4, 0, 0), Check.PLACE);
        T.due("status()", x.status(), 2);
        T.due("PLACE ahead of an item", x.stood(0, -1, 3, 0, 0), Check.PLACE);
        T.due("PLACE ahead of an item", x.stood(0, 2, 2, 0, 0), Check.PLACE);
        x.set(0, 1, 14);
        T.due("an item", x.stood(0, 0, 3, 0, 0), Check.BAD);
        T.due("status()", x.status(), 0);
    }

    /** "image: .. BAD; STATE: no SQUARE." */
    private static void imageBadAheadOfState() {
        HotPennies x = new HotPennies();
        for (int k : new int[] {-1, 2, 256, MAX, MIN}) {
            T.due("image(" + k + ")", x.image(k), Check.BAD);
        }
        T.due("image(0)", x.image(0), Check.STATE);
        T.due("image(1)", x.image(1), Check.STATE);
    }

    /** "restore: .. BAD; STATE: none was kept." */
    private static void restoreBadAheadOfState() {
        HotPennies x = new HotPennies();
        for (int again = 0; again < 2; again++) {
            for (int k : new int[] {-1, 2, 256, MAX, MIN}) {
                T.due("restore(" + k + ")", x.restore(k), Check.BAD);
            }
            T.due("restore(0)", x.restore(0), Check.STATE);
            T.due("restore(1)", x.restore(1), Check.STATE);
            Check.read(x, "law 0;child shy 0 0 1;");
        }
    }

    /** "as: .. BAD; KIND: it is no such one." */
    private static void asBadAheadOfKind() {
        HotPennies x = two();
        T.due("as(0, 5)", x.as(0, 5), Check.KIND);
        T.due("as(2, 5)", x.as(2, 5), Check.BAD);
        T.due("as(-1, 5)", x.as(-1, 5), Check.BAD);
        T.due("as(0, 6)", x.as(0, 6), Check.BAD);
        T.due("as(0, -1)", x.as(0, -1), Check.BAD);
        T.due("status()", x.status(), 3);
    }

    /** "throwsFor: .. NONE (not so many, too). BAD: k below -1": also where there are no throws at all. */
    private static void throwsForBadAheadOfNone() {
        HotPennies x = Check.told("law 20;child small 0 0 1;");
        T.due("throwsFor(0, -1)", x.throwsFor(0, -1), Check.NONE);
        T.due("throwsFor(0, -2)", x.throwsFor(0, -2), Check.BAD);
        T.due("throwsFor(3, 9)", x.throwsFor(3, 9), Check.BAD);
        T.due("throwsFor(-1, 9)", x.throwsFor(-1, 9), Check.BAD);
        T.due("throwsFor(0, 9)", x.throwsFor(0, 9), Check.NONE);
    }
}
