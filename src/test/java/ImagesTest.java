/** Promises 25 and 26: image, restore. */
public final class ImagesTest {
    public static void main(String[] args) {
        Check t = new Check("ImagesTest");
        refused(t);
        allOfASquareIsKept(t);
        actsAfterAnImage(t);
        t.end();
    }

    private static void refused(Check t) {
        HotPennies x = new HotPennies();
        t.due("image(-1): BAD ahead of STATE", x.image(-1), Check.BAD);
        t.due("image(2)", x.image(2), Check.BAD);
        t.due("image(0)", x.image(0), Check.STATE);
        t.due("restore(-1): BAD ahead of STATE", x.restore(-1), Check.BAD);
        t.due("restore(2)", x.restore(2), Check.BAD);
        t.due("restore(0)", x.restore(0), Check.STATE);
        Check.read(x, "law 1;");
        t.due("restore(0), a square, but no image", x.restore(0), Check.STATE);
        t.due("image(-1)", x.image(-1), Check.BAD);
        t.due("image(0)", x.image(0), 1);
        t.due("restore(1), the other one", x.restore(1), Check.STATE);
        t.due("restore(0)", x.restore(0), 1);
    }

    private static void allOfASquareIsKept(Check t) {
        HotPennies x = Check.told("law 3;drain 1 1;child small 2 2 3;child big 0 0 4;");
        x.toss(14, 0, 5, 1);
        x.run(0, 9);
        t.due("image(0)", x.image(0), 1);
        t.due("count(4): an image is no act and leaves them", x.count(4), 2);
        x.row(0, 0, 3);
        Check.read(x, "law 7;child shy 5 4 9;");
        t.due("image(1)", x.image(1), 1);
        t.due("run", x.run(0, 0), 9);
        t.due("restore(0)", x.restore(0), 1);
        t.due("count(1)", x.count(1), 2);
        t.due("count(2)", x.count(2), 1);
        t.due("cell(7, 1)", x.cell(7, 1), 1);
        t.due("count(3)", x.count(3), 3);
        t.due("count(4): no act can be undone", x.count(4), 0);
        t.due("undo()", x.undo(), Check.STATE);
        t.due("child(0, 0)", x.child(0, 0), 9);
        t.due("child(0, 1)", x.child(0, 1), 3);
        t.due("child(0, 2)", x.child(0, 2), 5);
        t.due("kind(1)", x.kind(1), 2);
        t.due("drop(0): rows stay", x.drop(0), 3);
        t.due("restore(1)", x.restore(1), 1);
        t.due("count(1)", x.count(1), 1);
        t.due("child(0, 0)", x.child(0, 0), 29);
        t.due("child(0, 1)", x.child(0, 1), 9);
        t.due("child(0, 2)", x.child(0, 2), 0);
        t.due("kind(0)", x.kind(0), 3);
        t.due("count(3)", x.count(3), 7);
    }

    private static void actsAfterAnImage(Check t) {
        HotPennies x = Check.told("law 0;child small 2 2 3;");
        x.image(0);
        x.toss(14, 0, 5, 1);
        t.due("restore(0)", x.restore(0), 1);
        t.due("child(0, 2)", x.child(0, 2), 0);
        x.toss(14, 0, 6, 1);
        x.image(0);
        x.run(0, 0);
        t.due("restore(0): the later image", x.restore(0), 1);
        t.due("child(0, 2)", x.child(0, 2), 6);
        t.due("child(0, 0)", x.child(0, 0), 14);
        x.run(0, 29);
        t.due("restore(0) again: an image stays as it was kept", x.restore(0), 1);
        t.due("child(0, 0)", x.child(0, 0), 14);
        x.image(1);
        x.run(0, 1);
        t.due("undo() after an image", x.undo(), 0);
        t.due("child(0, 0)", x.child(0, 0), 14);
        t.due("a text with a fault", Check.read(x, "law"), -1000103);
        t.due("restore(1)", x.restore(1), 1);
    }
}
