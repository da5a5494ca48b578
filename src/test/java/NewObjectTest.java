/** Promise 1: a new object; the constants; what each call refuses while there is no square. */
public final class NewObjectTest {
    public static void main(String[] args) {
        Check t = new Check("NewObjectTest");
        t.due("NONE", HotPennies.NONE, Check.NONE);
        t.due("BAD", HotPennies.BAD, Check.BAD);
        t.due("STATE", HotPennies.STATE, Check.STATE);
        t.due("FULL", HotPennies.FULL, Check.FULL);
        nothingIsThere(t);
        stateAheadOfBad(t);
        badAsThereIsNoChild(t);
        objectsAreApart(t);
        t.end();
    }

    private static void nothingIsThere(Check t) {
        HotPennies x = new HotPennies();
        for (int what = 0; what <= 6; what++) {
            t.due("count(" + what + ")", x.count(what), 0);
        }
        for (int row = 0; row < 8; row++) {
            t.due("drop(" + row + ")", x.drop(row), Check.NULL);
        }
        t.due("fault()", x.fault(), 0);
        t.due("trace(0)", x.trace(0), Check.NONE);
        t.due("image(0)", x.image(0), Check.STATE);
        t.due("image(1)", x.image(1), Check.STATE);
        t.due("restore(0)", x.restore(0), Check.STATE);
        t.due("restore(1)", x.restore(1), Check.STATE);
        t.due("undo()", x.undo(), Check.STATE);
        t.due("status() of a fresh one", new HotPennies().status(), 0);
    }

    private static void stateAheadOfBad(Check t) {
        HotPennies x = new HotPennies();
        t.due("toss(14, 1, 1, 1)", x.toss(14, 1, 1, 1), Check.STATE);
        t.due("toss(-1, 3, 0, 0)", x.toss(-1, 3, 0, 0), Check.STATE);
        t.due("cell(0, 0)", x.cell(0, 0), Check.STATE);
        t.due("cell(30, 2)", x.cell(30, 2), Check.STATE);
        t.due("rounds(0, 0, -1)", x.rounds(0, 0, -1), Check.STATE);
        t.due("rounds(30, 3, 9)", x.rounds(30, 3, 9), Check.STATE);
        t.due("aim(0, 0)", x.aim(0, 0), Check.STATE);
        t.due("aim(3, 2)", x.aim(3, 2), Check.STATE);
        t.due("throwsFor(0, -1)", x.throwsFor(0, -1), Check.STATE);
        t.due("throwsFor(3, -2)", x.throwsFor(3, -2), Check.STATE);
    }

    private static void badAsThereIsNoChild(Check t) {
        HotPennies x = new HotPennies();
        t.due("run(0, 0)", x.run(0, 0), Check.BAD);
        t.due("corner(0, 1)", x.corner(0, 1), Check.BAD);
        t.due("child(0, 0)", x.child(0, 0), Check.BAD);
        t.due("power(0, 0)", x.power(0, 0), Check.BAD);
        t.due("mean(0, 0, 0, 0)", x.mean(0, 0, 0, 0), Check.BAD);
        t.due("some(0, 0, 0, 0, 0)", x.some(0, 0, 0, 0, 0), Check.BAD);
        t.due("stand(0, 0, 0)", x.stand(0, 0, 0), Check.BAD);
        t.due("brothers(0, 1, 0, 0, 0)", x.brothers(0, 1, 0, 0, 0), Check.BAD);
        t.due("cool(0, 0, 0)", x.cool(0, 0, 0), Check.BAD);
        t.due("stood(0, 0, 0, 0, 0)", x.stood(0, 0, 0, 0, 0), Check.BAD);
        t.due("kind(0)", x.kind(0), Check.BAD);
        t.due("as(0, 0)", x.as(0, 0), Check.BAD);
        t.due("ask(0, 0)", x.ask(0, 0), Check.BAD);
    }

    private static void objectsAreApart(Check t) {
        HotPennies x = Check.told("law 3; drain 1 1; child big 0 0 4;");
        x.row(0, 0, 3);
        HotPennies y = new HotPennies();
        t.due("count(1) of another object", y.count(1), 0);
        t.due("count(0) of another object", y.count(0), 0);
        t.due("count(3) of the first", x.count(3), 3);
    }
}
