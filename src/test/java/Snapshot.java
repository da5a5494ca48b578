import java.util.ArrayList;
import java.util.List;

/**
 * All that an object has, as one list of answers: two objects that were used alike have the same one.
 *
 * <p>To see all of it the object is used up: acts are undone, images are restored, the tape is read. It has
 * to hold a text with a shy one, who tells the items of the rows.
 */
final class Snapshot {
    private final HotPennies x;
    private final List<Integer> seen = new ArrayList<>();

    private Snapshot(HotPennies x) {
        this.x = x;
    }

    static List<Integer> of(HotPennies x) {
        Snapshot s = new Snapshot(x);
        s.square();
        s.trace();
        s.acts();
        s.images();
        s.tape();
        s.rows();
        return s.seen;
    }

    private void square() {
        seen.add(x.fault());
        for (int what = 0; what <= 6; what++) {
            seen.add(x.count(what));
        }
        for (int c = 0; c < 4; c++) {
            seen.add(x.kind(c));
            seen.add(x.child(c, 1));
        }
        for (int cell = 0; cell < 30; cell++) {
            seen.add(x.cell(cell, 1));
        }
    }

    private void trace() {
        for (int i = 0; i <= 7; i++) {
            seen.add(x.trace(i));
        }
    }

    private void children() {
        for (int c = 0; c < 3; c++) {
            seen.add(x.child(c, 0));
            seen.add(x.child(c, 2));
        }
    }

    private void acts() {
        children();
        for (int left = x.count(4); left >= 0; left--) {
            seen.add(x.undo());
            children();
        }
    }

    private void images() {
        for (int k = 1; k >= 0; k--) {
            seen.add(x.restore(k));
            children();
            seen.add(x.kind(0));
            for (int what = 1; what <= 5; what++) {
                seen.add(x.count(what));
            }
        }
    }

    private void tape() {
        seen.add(x.square());
        seen.add(x.fault());
        for (int what = 1; what <= 3; what++) {
            seen.add(x.count(what));
        }
        children();
    }

    /** Lanes are told by which rows are alike, and by what an item becomes. */
    private void rows() {
        for (int row = 0; row <= 7; row++) {
            for (int other = 0; other <= 2; other++) {
                seen.add(x.copy(row, 0, other, 0, 0));
            }
        }
        for (int row = 0; row <= 7; row++) {
            int answer = 0;
            for (int i = 0; i <= 40 && answer != Check.NULL && answer != Check.PLACE; i++) {
                answer = x.stood(row, i, 1, 0, 1);
                seen.add(answer);
            }
            seen.add(x.set(row, 0, 1000000));
            seen.add(x.drop(row));
        }
    }
}
