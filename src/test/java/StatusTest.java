/** Promise 32: status; and that what is refused, or found, changes nothing else. */
public final class StatusTest {
    public static void main(String[] args) {
        Check t = new Check("StatusTest");
        numbers(t);
        refusalsLeaveIt(t);
        otherCallsLeaveIt(t);
        t.end();
    }

    private static void due(Check t, HotPennies x, int answer, int due, int status) {
        t.due("a call with a row, or as()", answer, due);
        t.due("status()", x.status(), status);
    }

    private static HotPennies begun() {
        HotPennies x = Check.told("law 0;child small 0 0 3;");
        Check.tellRow(x, 0, 14, 30, 14);
        x.row(1, 1, 3);
        return x;
    }

    private static void numbers(Check t) {
        HotPennies x = begun();
        due(t, x, x.set(2, 0, 0), Check.NULL, 1);
        due(t, x, x.set(0, 3, 0), Check.PLACE, 2);
        due(t, x, x.as(0, 5), Check.KIND, 3);
        due(t, x, x.row(0, 0, -1), Check.SIZE, 4);
        due(t, x, x.copy(0, 0, 1, 0, 1), Check.STORE, 5);
        due(t, x, x.set(0, 0, 14), 14, 0);
        due(t, x, x.drop(2), Check.NULL, 1);
        due(t, x, x.row(2, 0, 2), 2, 0);
        due(t, x, x.copy(0, 0, 3, 0, 1), Check.NULL, 1);
        due(t, x, x.copy(0, 0, 0, 1, 0), 0, 0);
        due(t, x, x.copy(0, 0, 0, 1, 3), Check.PLACE, 2);
        due(t, x, x.drop(2), 2, 0);
        due(t, x, x.stood(2, 0, 1, 0, 0), Check.NULL, 1);
        due(t, x, x.stood(0, 0, 1, 0, 1), Check.bits(8, 13, 14, 15, 20), 0);
        due(t, x, x.stood(0, 3, 1, 0, 0), Check.PLACE, 2);
        due(t, x, x.as(0, 1), 0, 0);
    }

    private static void refusalsLeaveIt(Check t) {
        HotPennies x = begun();
        due(t, x, x.as(0, 2), Check.KIND, 3);
        due(t, x, x.row(8, 0, 0), Check.BAD, 3);
        due(t, x, x.set(-1, 0, 0), Check.BAD, 3);
        due(t, x, x.copy(0, 0, 8, 0, 0), Check.BAD, 3);
        due(t, x, x.drop(9), Check.BAD, 3);
        due(t, x, x.as(1, 0), Check.BAD, 3);
        due(t, x, x.stood(0, 0, 21, 0, 0), Check.BAD, 3);
        due(t, x, x.stood(0, 0, 2, 0, 0), Check.BAD, 3);
        due(t, x, x.set(0, 0, 1), 1, 0);
        due(t, x, x.stood(0, 1, 1, 0, 0), Check.BAD, 0);
    }

    private static void otherCallsLeaveIt(Check t) {
        HotPennies x = begun();
        due(t, x, x.row(5, 2, -7), Check.SIZE, 4);
        Check.feed(x, "law");
        x.square();
        Check.read(x, "law 1;child big 1 1 5;");
        x.toss(7, 0, 3, 1);
        x.run(0, 8);
        x.undo();
        x.cell(0, 0);
        x.mean(0, 0, 1, 0);
        x.rounds(0, 0, 0);
        x.image(0);
        x.restore(0);
        x.ask(0, 0);
        x.trace(0);
        x.count(0);
        x.kind(7);
        x.corner(0, 0);
        x.undo();
        t.due("status() after calls without a row", x.status(), 4);
        t.due("status() again", x.status(), 4);
    }
}
