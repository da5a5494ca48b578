/** Promises 2 to 5: row, set, copy, drop; and promise 31's rows. */
public final class RowsTest {
    private static final int MAX = Integer.MAX_VALUE, MIN = Integer.MIN_VALUE;

    public static void main(String[] args) {
        Check t = new Check("RowsTest");
        row(t);
        set(t);
        copy(t);
        copyRefused(t);
        drop(t);
        t.end();
    }

    private static void row(Check t) {
        HotPennies x = new HotPennies();
        t.due("row(-1, 0, 1)", x.row(-1, 0, 1), Check.BAD);
        t.due("row(8, 0, 1)", x.row(8, 0, 1), Check.BAD);
        t.due("row(0, -1, 1)", x.row(0, -1, 1), Check.BAD);
        t.due("row(0, 3, 1)", x.row(0, 3, 1), Check.BAD);
        t.due("row(0, 0, 41)", x.row(0, 0, 41), Check.BAD);
        t.due("row(0, 0, MAX)", x.row(0, 0, MAX), Check.BAD);
        t.due("row(8, 0, -1): BAD ahead of SIZE", x.row(8, 0, -1), Check.BAD);
        t.due("row(0, 3, -1): BAD ahead of SIZE", x.row(0, 3, -1), Check.BAD);
        t.due("row(0, 0, -1)", x.row(0, 0, -1), Check.SIZE);
        t.due("row(7, 2, MIN)", x.row(7, 2, MIN), Check.SIZE);
        t.due("count(0), all refused", x.count(0), 0);
        t.due("row(0, 0, 40)", x.row(0, 0, 40), 40);
        t.due("row(7, 2, 0)", x.row(7, 2, 0), 0);
        t.due("row(1, 1, 3)", x.row(1, 1, 3), 3);
        t.due("count(0)", x.count(0), 3);
        t.due("set(0, 39, 7)", x.set(0, 39, 7), 7);
        t.due("row(0, 0, -1) leaves what is there", x.row(0, 0, -1), Check.SIZE);
        t.due("row(0, 0, 41) leaves what is there", x.row(0, 0, 41), Check.BAD);
        t.due("drop(0)", x.drop(0), 40);
        t.due("drop(7) of no items", x.drop(7), 0);
        rowsBeginWithNoughts(t);
    }

    /** Items are seen where they are told: a child who stands in cell 0 has what lands there. */
    private static void rowsBeginWithNoughts(Check t) {
        HotPennies x = Check.told("law 1;child small 0 0 1;");
        Check.tellRow(x, 2, 14, 14, 14);
        t.due("stood, items 14", x.stood(2, 0, 3, 0, 3), Check.bits(14));
        t.due("row(2, 2, 3) in place of it", x.row(2, 2, 3), 3);
        t.due("stood, items 0 at first", x.stood(2, 0, 3, 0, 3), Check.bits(0));
        t.due("row(2, 2, 5) in place of it", x.row(2, 2, 5), 5);
        t.due("stood, five items 0", x.stood(2, 0, 5, 0, 5), Check.bits(0));
        t.due("row(2, 0, 2): another lane", x.row(2, 0, 2), 2);
        t.due("set(2, 0, 128)", x.set(2, 0, 128), -128);
        t.due("set(2, 2, 1)", x.set(2, 2, 1), Check.PLACE);
    }

    private static void set(Check t) {
        HotPennies x = new HotPennies();
        t.due("set(-1, 0, 0)", x.set(-1, 0, 0), Check.BAD);
        t.due("set(8, 0, 0)", x.set(8, 0, 0), Check.BAD);
        t.due("set(3, 0, 0)", x.set(3, 0, 0), Check.NULL);
        t.due("set(3, -1, 0): NULL ahead of PLACE", x.set(3, -1, 0), Check.NULL);
        for (int lane = 0; lane <= 2; lane++) {
            x.row(lane, lane, 40);
        }
        t.due("set(0, -1, 0)", x.set(0, -1, 0), Check.PLACE);
        t.due("set(0, 40, 0)", x.set(0, 40, 0), Check.PLACE);
        t.due("set(0, MAX, 0)", x.set(0, MAX, 0), Check.PLACE);
        t.due("set(0, MIN, 0)", x.set(0, MIN, 0), Check.PLACE);
        t.due("set(0, 0, 127)", x.set(0, 0, 127), 127);
        t.due("set(0, 39, 128)", x.set(0, 39, 128), -128);
        t.due("set(0, 0, 255)", x.set(0, 0, 255), -1);
        t.due("set(0, 0, 256)", x.set(0, 0, 256), 0);
        t.due("set(0, 0, -129)", x.set(0, 0, -129), 127);
        t.due("set(1, 0, 32767)", x.set(1, 0, 32767), 32767);
        t.due("set(1, 39, 32768)", x.set(1, 39, 32768), -32768);
        t.due("set(1, 0, 65536 + 300)", x.set(1, 0, 65536 + 300), 300);
        t.due("set(1, 0, -32769)", x.set(1, 0, -32769), 32767);
        t.due("set(2, 0, MAX)", x.set(2, 0, MAX), MAX);
        t.due("set(2, 39, MIN)", x.set(2, 39, MIN), MIN);
        x.row(4, 0, 0);
        t.due("set(4, 0, 0) of no items", x.set(4, 0, 0), Check.PLACE);
    }

    /** Rows are read by where a child stood who had all their pennies. */
    private static void copy(Check t) {
        HotPennies x = Check.told("law 1;child small 0 0 1;");
        Check.tellRow(x, 0, 1, 2, 3, 4, 5);
        Check.tellRow(x, 1, 9, 9, 9, 9, 9);
        t.due("copy(0, 1, 1, 2, 3)", x.copy(0, 1, 1, 2, 3), 3);
        dueItems(t, x, 1, 9, 9, 2, 3, 4);
        dueItems(t, x, 0, 1, 2, 3, 4, 5);
        t.due("copy(0, 0, 0, 1, 4), onwards over itself", x.copy(0, 0, 0, 1, 4), 4);
        dueItems(t, x, 0, 1, 1, 2, 3, 4);
        t.due("copy(0, 1, 0, 0, 4), back over itself", x.copy(0, 1, 0, 0, 4), 4);
        dueItems(t, x, 0, 1, 2, 3, 4, 4);
        t.due("copy(0, 5, 1, 5, 0) at both ends", x.copy(0, 5, 1, 5, 0), 0);
        t.due("copy(0, 0, 1, 0, 5), all", x.copy(0, 0, 1, 0, 5), 5);
        dueItems(t, x, 1, 1, 2, 3, 4, 4);
        x.row(2, 2, 0);
        t.due("copy(2, 0, 2, 0, 0) of no items", x.copy(2, 0, 2, 0, 0), 0);
    }

    private static void dueItems(Check t, HotPennies x, int row, int... items) {
        for (int i = 0; i < items.length; i++) {
            t.due("item " + i + " of row " + row, x.stood(row, i, 1, 0, 1), Check.bits(items[i]));
        }
    }

    private static void copyRefused(Check t) {
        HotPennies x = new HotPennies();
        x.row(0, 2, 5);
        x.row(1, 2, 4);
        x.row(2, 1, 5);
        t.due("copy(-1, 0, 0, 0, 1)", x.copy(-1, 0, 0, 0, 1), Check.BAD);
        t.due("copy(8, 0, 0, 0, 1)", x.copy(8, 0, 0, 0, 1), Check.BAD);
        t.due("copy(0, 0, -1, 0, 1)", x.copy(0, 0, -1, 0, 1), Check.BAD);
        t.due("copy(7, 0, 8, 0, 1): BAD ahead of NULL", x.copy(7, 0, 8, 0, 1), Check.BAD);
        t.due("copy(7, 0, 0, 0, 1)", x.copy(7, 0, 0, 0, 1), Check.NULL);
        t.due("copy(0, 0, 7, 0, 1)", x.copy(0, 0, 7, 0, 1), Check.NULL);
        t.due("copy(7, -1, 2, 0, -1): NULL ahead of all", x.copy(7, -1, 2, 0, -1), Check.NULL);
        t.due("copy(0, 0, 2, 0, 1)", x.copy(0, 0, 2, 0, 1), Check.STORE);
        t.due("copy(0, 0, 2, 0, 0)", x.copy(0, 0, 2, 0, 0), Check.STORE);
        t.due("copy(2, -1, 0, 9, -1): STORE ahead of PLACE", x.copy(2, -1, 0, 9, -1), Check.STORE);
        t.due("copy(0, -1, 1, 0, 1)", x.copy(0, -1, 1, 0, 1), Check.PLACE);
        t.due("copy(0, 0, 1, -1, 1)", x.copy(0, 0, 1, -1, 1), Check.PLACE);
        t.due("copy(0, 0, 1, 0, -1)", x.copy(0, 0, 1, 0, -1), Check.PLACE);
        t.due("copy(0, 2, 1, 0, 4)", x.copy(0, 2, 1, 0, 4), Check.PLACE);
        t.due("copy(0, 0, 1, 1, 4)", x.copy(0, 0, 1, 1, 4), Check.PLACE);
        t.due("copy(0, 6, 1, 0, 0)", x.copy(0, 6, 1, 0, 0), Check.PLACE);
        t.due("copy(0, 0, 1, 5, 0)", x.copy(0, 0, 1, 5, 0), Check.PLACE);
        t.due("copy(0, MAX, 1, 0, 1)", x.copy(0, MAX, 1, 0, 1), Check.PLACE);
        t.due("copy(0, 1, 1, 1, MAX)", x.copy(0, 1, 1, 1, MAX), Check.PLACE);
        t.due("copy(0, 1, 1, 1, MIN)", x.copy(0, 1, 1, 1, MIN), Check.PLACE);
        t.due("copy(0, 1, 1, 0, 4)", x.copy(0, 1, 1, 0, 4), 4);
    }

    private static void drop(Check t) {
        HotPennies x = new HotPennies();
        t.due("drop(-1)", x.drop(-1), Check.BAD);
        t.due("drop(8)", x.drop(8), Check.BAD);
        t.due("drop(6)", x.drop(6), Check.NULL);
        x.row(6, 1, 17);
        x.row(5, 1, 2);
        t.due("drop(6)", x.drop(6), 17);
        t.due("drop(6) again", x.drop(6), Check.NULL);
        t.due("set(6, 0, 1)", x.set(6, 0, 1), Check.NULL);
        t.due("count(0)", x.count(0), 1);
        t.due("row(6, 0, 1) anew", x.row(6, 0, 1), 1);
        t.due("count(0)", x.count(0), 2);
    }
}
