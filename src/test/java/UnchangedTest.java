import java.util.ArrayList;
import java.util.Arrays;
import java.util.List;

/**
 * "What is refused, or found, changes nothing but status()", and "FORETOLD (nothing changes)": each such call on
 * an object that has something of everything, which is looked at as a whole then.
 */
public final class UnchangedTest {
    private static final int MAX = Check.MAX, MIN = Check.MIN;
    private static final String LAST = "law 13;drain 2 2;child shy 0 0 9;";

    private record Case(String name, Check.Call call, int due) {
    }

    private static final Check T = new Check("UnchangedTest");
    private static final List<Case> CASES = new ArrayList<>();

    public static void main(String[] args) {
        refusedRows();
        refusedActs();
        refusedCells();
        refusedForetold();
        refusedAsks();
        hold("refused", LAST);
        refusedWhereTheTapeIsFull();
        hold("refused, full tape", " ".repeat(260) + LAST);
        onlyAsked();
        refusedWhereNothingCanBeUndone();
        refusedWhereThereIsNoSquare();
        faultsChangeTheTapeAlone();
        changesAreSeen();
        T.end();
    }

    private static void add(String name, int due, Check.Call call) {
        CASES.add(new Case(name, call, due));
    }

    /** An object that has something of everything; status() is 0, or 5. */
    private static HotPennies begun(int status, String tape) {
        HotPennies x = Check.told("law 3;drain 1 1;child shy 2 2 9;child big 0 0 4;");
        x.toss(14, 0, 3, 1);
        x.run(1, 8);
        x.image(0);
        Check.read(x, "law 21;");
        Check.read(x, "law 2;drain 5 0;drain 0 4;child small 2 2 5;child big 3 2 4;child glove 0 0 6;");
        x.toss(14, 1, 20, 77);
        x.toss(0, 0, 5, 1);
        x.corner(1, 0);
        x.run(2, 7);
        x.run(0, 14);
        x.ask(1, 0);
        Check.tellRow(x, 2, 5, 6, 7, 8);
        Check.tellRow(x, 7);
        x.row(0, 0, 3);
        x.set(0, 1, 9);
        x.set(0, 2, -1);
        x.row(1, 1, 2);
        x.set(1, 1, 29);
        Check.feed(x, tape);
        T.due("status() begun", x.copy(0, 0, status == 0 ? 0 : 1, 0, 0), status == 0 ? 0 : Check.STORE);
        return x;
    }

    /** Each case on objects that begin alike: its answer, status(), and all else as it was. */
    private static void hold(String of, String tape) {
        for (int status = 0; status <= 5; status += 5) {
            List<Integer> asItWas = Snapshot.of(begun(status, tape));
            for (Case c : CASES) {
                HotPennies x = begun(status, tape);
                int answer = c.call.on(x);
                T.due(of + ": " + c.name, answer, c.due);
                boolean found = answer <= -1000011 && answer >= -1000015;
                int due = found ? -1000010 - answer : status;
                T.due("status() after " + c.name, x.status(), due);
                T.due("all is as it was after " + c.name, Snapshot.of(x).equals(asItWas) ? 1 : 0, 1);
            }
        }
        CASES.clear();
    }

    /** Calls with a row, and as(): status() tells of them. */
    private static boolean isTold(String name) {
        return name.startsWith("stood") || name.startsWith("as") || name.startsWith("copy");
    }

    private static void refusedRows() {
        int[][] rows = {{-1, 0, 1}, {8, 0, 1}, {0, -1, 1}, {0, 3, 1}, {0, 0, 41}, {0, 0, MAX}, {8, 0, -1}, {3, 3, 0}};
        for (int[] r : rows) {
            add("row BAD " + Arrays.toString(r), Check.BAD, x -> x.row(r[0], r[1], r[2]));
        }
        add("row SIZE", Check.SIZE, x -> x.row(0, 0, -1));
        add("row SIZE", Check.SIZE, x -> x.row(2, 0, MIN));
        add("row SIZE of one that is missing", Check.SIZE, x -> x.row(5, 2, -3));
        add("set BAD", Check.BAD, x -> x.set(-1, 0, 1));
        add("set BAD", Check.BAD, x -> x.set(8, 0, 1));
        add("set NULL", Check.NULL, x -> x.set(3, 0, 1));
        int[][] sets = {{0, -1}, {0, 3}, {1, 2}, {2, 4}, {7, 0}, {2, MAX}, {2, MIN}, {2, 256}};
        for (int[] s : sets) {
            add("set PLACE " + Arrays.toString(s), Check.PLACE, x -> x.set(s[0], s[1], 1));
        }
        int[] odd = {-1, 8};
        for (int o : odd) {
            add("copy BAD " + o, Check.BAD, x -> x.copy(o, 0, 2, 0, 1));
            add("copy BAD " + o, Check.BAD, x -> x.copy(2, 0, o, 0, 1));
            add("drop BAD " + o, Check.BAD, x -> x.drop(o));
        }
        add("copy NULL", Check.NULL, x -> x.copy(3, 0, 2, 0, 1));
        add("copy NULL", Check.NULL, x -> x.copy(2, 0, 3, 0, 1));
        add("copy NULL", Check.NULL, x -> x.copy(3, 0, 3, 0, 0));
        add("copy STORE", Check.STORE, x -> x.copy(0, 0, 1, 0, 1));
        add("copy STORE", Check.STORE, x -> x.copy(2, 0, 0, 0, 0));
        int[][] places = {{-1, 0, 1}, {0, -1, 1}, {0, 0, -1}, {0, 0, 5}, {1, 0, 4}, {0, 1, 4}, {4, 0, 1}, {0, 4, 1},
            {5, 0, 0}, {0, 5, 0}, {MAX, 0, 2}, {0, MAX, 2}, {1, 1, MAX}};
        for (int[] p : places) {
            add("copy PLACE " + Arrays.toString(p), Check.PLACE, x -> x.copy(2, p[0], 2, p[1], p[2]));
        }
        add("copy PLACE to one of no items", Check.PLACE, x -> x.copy(2, 0, 7, 0, 1));
        add("copy PLACE from one of no items", Check.PLACE, x -> x.copy(7, 0, 2, 0, 1));
        add("drop NULL", Check.NULL, x -> x.drop(3));
    }

    private static void refusedActs() {
        for (int n : new int[] {0, 9, -1, MAX, MIN, 256 + 3}) {
            add("feed BAD " + n, Check.BAD, x -> x.feed(0x3B3B3B3B3B3B3B3BL, n));
        }
        int[][] tosses = {{-1, 1, 5, 7}, {30, 1, 5, 7}, {14, -1, 5, 7}, {14, 3, 5, 7}, {14, 1, 0, 7}, {14, 1, 21, 7},
            {14, 1, 5, 0}, {14, 1, 5, 1000000}, {14, 1, -5, 7}, {14, 1, 5, -7}, {MAX, 1, 5, 7}, {MIN, 1, 5, 7}};
        for (int[] t : tosses) {
            add("toss BAD " + Arrays.toString(t), Check.BAD, x -> x.toss(t[0], t[1], t[2], t[3]));
        }
        int[][] runs = {{-1, 3}, {3, 3}, {0, -1}, {0, 30}, {MAX, 3}, {0, MAX}, {0, MIN}};
        for (int[] r : runs) {
            add("run BAD " + Arrays.toString(r), Check.BAD, x -> x.run(r[0], r[1]));
        }
        int[][] corners = {{-1, 0}, {3, 0}, {1, -1}, {1, 3}, {0, 0}, {1, 1}, {2, 2}, {3, 3}};
        for (int[] c : corners) {
            add("corner BAD " + Arrays.toString(c), Check.BAD, x -> x.corner(c[0], c[1]));
        }
        add("corner STATE: 5 by twice 4", Check.STATE, x -> x.corner(0, 1));
        add("corner STATE: 5 by 6", Check.STATE, x -> x.corner(0, 2));
        add("corner STATE: 6 by twice 4", Check.STATE, x -> x.corner(2, 1));
    }

    private static void refusedCells() {
        int[][] children = {{-1, 0}, {3, 0}, {0, -1}, {0, 3}};
        for (int[] c : children) {
            add("child BAD " + Arrays.toString(c), Check.BAD, x -> x.child(c[0], c[1]));
        }
        int[][] cells = {{-1, 0}, {30, 0}, {0, -1}, {0, 2}};
        for (int[] c : cells) {
            add("cell BAD " + Arrays.toString(c), Check.BAD, x -> x.cell(c[0], c[1]));
        }
        int[][] powers = {{-1, 0}, {3, 0}, {0, -1}, {0, 30}};
        for (int[] p : powers) {
            add("power BAD " + Arrays.toString(p), Check.BAD, x -> x.power(p[0], p[1]));
        }
    }

    private static void refusedForetold() {
        int[][] bad = {{-1, 14, 1}, {3, 14, 1}, {0, -1, 1}, {0, 30, 1}, {0, 14, -1}, {0, 14, 3}};
        for (int[] b : bad) {
            add("mean BAD " + Arrays.toString(b), Check.BAD, x -> x.mean(b[0], b[1], b[2], 0));
            add("some BAD " + Arrays.toString(b), Check.BAD, x -> x.some(b[0], b[1], b[2], 3, 0));
            add("stand BAD " + Arrays.toString(b), Check.BAD, x -> x.stand(b[0], b[1], b[2]));
            add("cool BAD " + Arrays.toString(b), Check.BAD, x -> x.cool(b[0], b[1], b[2]));
            add("brothers BAD " + Arrays.toString(b), Check.BAD, x -> x.brothers(b[0], 1, b[1], b[2], 0));
            add("brothers BAD " + Arrays.toString(b), Check.BAD, x -> x.brothers(1, b[0], b[1], b[2], 0));
            add("rounds BAD " + Arrays.toString(b), Check.BAD, x -> x.rounds(b[1], b[2], b[0] == -1 ? -2 : b[0]));
        }
        for (int what = -1; what <= 2; what += 3) {
            int w = what;
            add("mean BAD", Check.BAD, x -> x.mean(0, 14, 1, w));
            add("some BAD", Check.BAD, x -> x.some(0, 14, 1, 3, w));
            add("brothers BAD", Check.BAD, x -> x.brothers(0, 1, 14, 1, w));
            add("aim BAD", Check.BAD, x -> x.aim(1, w));
        }
        add("some BAD", Check.BAD, x -> x.some(0, 14, 1, -1, 0));
        add("some BAD", Check.BAD, x -> x.some(0, 14, 1, 7, 0));
        add("brothers BAD, alike", Check.BAD, x -> x.brothers(1, 1, 14, 1, 0));
        add("aim BAD", Check.BAD, x -> x.aim(-1, 0));
        add("aim BAD", Check.BAD, x -> x.aim(3, 0));
        add("throwsFor BAD", Check.BAD, x -> x.throwsFor(-1, 0));
        add("throwsFor BAD", Check.BAD, x -> x.throwsFor(3, 0));
        add("throwsFor BAD", Check.BAD, x -> x.throwsFor(1, -2));
        refusedStood();
    }

    private static void refusedStood() {
        int[][] bad = {{-1, 0, 1, 0, 0}, {8, 0, 1, 0, 0}, {2, 0, -1, 0, 0}, {2, 0, 21, 0, 0}, {2, 0, 1, -1, 0},
            {2, 0, 1, 3, 0}, {2, 0, 1, 0, -1}, {2, 0, 1, 0, 21}, {0, 0, 3, 0, 0}};
        for (int[] b : bad) {
            add("stood BAD " + Arrays.toString(b), Check.BAD, x -> x.stood(b[0], b[1], b[2], b[3], b[4]));
        }
        add("stood NULL", Check.NULL, x -> x.stood(3, 0, 1, 0, 0));
        int[][] places = {{2, -1, 1}, {2, 4, 1}, {2, 5, 0}, {2, 0, 5}, {7, 0, 1}, {2, MAX, 1}, {2, MIN, 1}};
        for (int[] p : places) {
            add("stood PLACE " + Arrays.toString(p), Check.PLACE, x -> x.stood(p[0], p[1], p[2], 0, 0));
        }
    }

    private static void refusedAsks() {
        add("image BAD", Check.BAD, x -> x.image(-1));
        add("image BAD", Check.BAD, x -> x.image(2));
        add("restore BAD", Check.BAD, x -> x.restore(-1));
        add("restore BAD", Check.BAD, x -> x.restore(2));
        add("restore STATE", Check.STATE, x -> x.restore(1));
        add("kind BAD", Check.BAD, x -> x.kind(-1));
        add("kind BAD", Check.BAD, x -> x.kind(3));
        add("as BAD", Check.BAD, x -> x.as(-1, 0));
        add("as BAD", Check.BAD, x -> x.as(3, 0));
        add("as BAD", Check.BAD, x -> x.as(0, -1));
        add("as BAD", Check.BAD, x -> x.as(0, 6));
        add("as KIND", Check.KIND, x -> x.as(0, 2));
        add("as KIND", Check.KIND, x -> x.as(1, 3));
        add("as KIND", Check.KIND, x -> x.as(2, 5));
        add("ask BAD", Check.BAD, x -> x.ask(-1, 0));
        add("ask BAD", Check.BAD, x -> x.ask(3, 0));
        add("ask BAD", Check.BAD, x -> x.ask(0, -1));
        add("ask BAD", Check.BAD, x -> x.ask(0, 2));
        add("trace NONE", Check.NONE, x -> x.trace(-1));
        add("trace NONE", Check.NONE, x -> x.trace(6));
        add("count BAD", Check.BAD, x -> x.count(-1));
        add("count BAD", Check.BAD, x -> x.count(7));
    }

    /** Calls that only ask, what is foretold ahead of all: asked again they answer alike, and all is as it was. */
    private static void onlyAsked() {
        for (int child = 0; child <= 2; child++) {
            int c = child;
            add("child", 0, x -> x.child(c, 0) + 100 * x.child(c, 1) + 10000 * x.child(c, 2));
            add("power", 0, x -> x.power(c, 14));
            add("kind", 0, x -> x.kind(c));
            for (int spread = 0; spread <= 2; spread++) {
                int s = spread;
                add("mean", 0, x -> x.mean(c, 14, s, 0));
                add("some", 0, x -> x.some(c, 14, s, 6, 1));
                add("stand", 0, x -> x.stand(c, 29, s));
                add("brothers", 0, x -> x.brothers(c, (c + 1) % 3, 29, s, 1));
                add("rounds", 0, x -> x.rounds(14, s, c));
                add("rounds", 0, x -> x.rounds(27, s, -1));
                add("aim", 0, x -> x.aim(s, 0));
                add("throwsFor", 0, x -> x.throwsFor(s, c));
                add("cool", 0, x -> x.cool(c, 14, s));
            }
        }
        add("fault", 0, x -> x.fault());
        add("cell", 0, x -> x.cell(14, 0));
        add("cell", 0, x -> x.cell(5, 1));
        add("trace", 0, x -> x.trace(0));
        add("count", 0, x -> x.count(4));
        add("status", 0, x -> x.status());
        add("stood", 0, x -> x.stood(2, 0, 4, 0, 0));
        add("stood", 0, x -> x.stood(7, 0, 0, 2, 20));
        add("as", 0, x -> x.as(2, 4));
        add("copy of none", 0, x -> x.copy(2, 4, 7, 0, 0));
        holdAsked();
    }

    private static void holdAsked() {
        List<Integer> asItWas = Snapshot.of(begun(5, LAST));
        for (Case c : CASES) {
            HotPennies x = begun(5, LAST);
            int answer = c.call.on(x);
            T.due(c.name + " is not refused", answer < Check.NONE ? 1 : 0, 0);
            T.due("status() after " + c.name, x.status(), isTold(c.name) ? 0 : 5);
            if (!c.name.equals("status")) {
                T.due(c.name + " again", c.call.on(x), answer);
            }
            T.due("all is as it was after " + c.name, Snapshot.of(x).equals(asItWas) ? 1 : 0, 1);
        }
        CASES.clear();
    }

    private static void refusedWhereTheTapeIsFull() {
        int room = 300 - 260 - LAST.length();
        for (int n = room + 1; n <= 8; n++) {
            int bytes = n;
            add("feed FULL", Check.FULL, x -> x.feed(0x3B3B3B3B3B3B3B3BL, bytes));
        }
        T.due("some have no room", room < 8 && room >= 0 ? 1 : 0, 1);
        add("feed BAD", Check.BAD, x -> x.feed(0x3B3B3B3B3B3B3B3BL, 9));
        add("feed BAD", Check.BAD, x -> x.feed(0x3B3B3B3B3B3B3B3BL, 0));
    }

    /** "undo: .. STATE: none." */
    private static void refusedWhereNothingCanBeUndone() {
        List<Integer> asItWas = Snapshot.of(undone());
        HotPennies x = undone();
        T.due("undo()", x.undo(), Check.STATE);
        T.due("undo()", x.undo(), Check.STATE);
        T.due("status()", x.status(), 5);
        T.due("all is as it was after undo()", Snapshot.of(x).equals(asItWas) ? 1 : 0, 1);
    }

    private static HotPennies undone() {
        HotPennies x = begun(5, LAST);
        for (int k = 0; k < 5; k++) {
            x.undo();
        }
        return x;
    }

    private static HotPennies bare() {
        HotPennies x = new HotPennies();
        Check.tellRow(x, 2, 5, 6, 7, 8);
        Check.feed(x, LAST);
        x.row(0, 0, -1);
        return x;
    }

    /** STATE, and BAD, of an object that has no SQUARE. */
    private static void refusedWhereThereIsNoSquare() {
        add("toss STATE", Check.STATE, x -> x.toss(14, 1, 5, 7));
        add("run BAD", Check.BAD, x -> x.run(0, 3));
        add("corner BAD", Check.BAD, x -> x.corner(0, 1));
        add("undo STATE", Check.STATE, x -> x.undo());
        add("child BAD", Check.BAD, x -> x.child(0, 0));
        add("cell STATE", Check.STATE, x -> x.cell(0, 0));
        add("power BAD", Check.BAD, x -> x.power(0, 0));
        add("mean BAD", Check.BAD, x -> x.mean(0, 0, 0, 0));
        add("some BAD", Check.BAD, x -> x.some(0, 0, 0, 0, 0));
        add("stand BAD", Check.BAD, x -> x.stand(0, 0, 0));
        add("brothers BAD", Check.BAD, x -> x.brothers(0, 1, 0, 0, 0));
        add("rounds STATE", Check.STATE, x -> x.rounds(0, 0, -1));
        add("aim STATE", Check.STATE, x -> x.aim(0, 0));
        add("throwsFor STATE", Check.STATE, x -> x.throwsFor(0, -1));
        add("cool BAD", Check.BAD, x -> x.cool(0, 0, 0));
        add("stood BAD", Check.BAD, x -> x.stood(2, 0, 1, 0, 0));
        add("image STATE", Check.STATE, x -> x.image(0));
        add("restore STATE", Check.STATE, x -> x.restore(0));
        add("kind BAD", Check.BAD, x -> x.kind(0));
        add("as BAD", Check.BAD, x -> x.as(0, 0));
        add("ask BAD", Check.BAD, x -> x.ask(0, 0));
        List<Integer> asItWas = Snapshot.of(bare());
        for (Case c : CASES) {
            HotPennies x = bare();
            T.due("no SQUARE: " + c.name, c.call.on(x), c.due);
            T.due("status() after " + c.name, x.status(), 4);
            T.due("all is as it was after " + c.name, Snapshot.of(x).equals(asItWas) ? 1 : 0, 1);
        }
        CASES.clear();
    }

    /** "all but the tape, and what fault() tells, stays": the fault is of the number of the one before. */
    private static void faultsChangeTheTapeAlone() {
        List<Integer> asItWas = Snapshot.of(begun(5, LAST));
        String[] faults = {"law 22;", "law 1;drain 1 1;drain 6 1;", "law 1;child big 1 1 9;child big 1 1 10;"};
        for (String fault : faults) {
            HotPennies x = begun(5, fault);
            T.due("a text with a fault", x.square() <= -1000100 ? 1 : 0, 1);
            T.due("fault()", x.fault(), 2);
            T.due("count(6)", x.count(6), 0);
            T.due("status()", x.status(), 5);
            Check.feed(x, LAST);
            T.due("all is as it was after '" + fault + "'", Snapshot.of(x).equals(asItWas) ? 1 : 0, 1);
        }
    }

    /** Each call that does change something is seen, so that nothing else goes unseen. */
    private static void changesAreSeen() {
        List<Integer> asItWas = Snapshot.of(begun(0, LAST));
        Check.Call[] changes = {x -> x.row(2, 2, 4), x -> x.row(7, 1, 0), x -> x.row(3, 0, 0), x -> x.set(2, 3, 9),
            x -> x.set(0, 0, 1), x -> x.copy(2, 0, 2, 1, 1), x -> x.drop(7), x -> x.feed(59, 1), x -> x.square(),
            x -> x.toss(14, 0, 1, 1), x -> x.toss(29, 0, 1, 1), x -> x.run(0, 15), x -> x.run(0, 14),
            x -> x.corner(1, 0), x -> x.corner(1, 2), x -> x.undo(), x -> x.image(0), x -> x.image(1),
            x -> x.restore(0), x -> x.ask(0, 0), x -> x.ask(1, 1)};
        for (int k = 0; k < changes.length; k++) {
            HotPennies x = begun(0, LAST);
            T.due("change " + k + " is not refused", changes[k].on(x) > -1000000 ? 1 : 0, 1);
            T.due("change " + k + " is seen", Snapshot.of(x).equals(asItWas) ? 1 : 0, 0);
        }
    }
}
