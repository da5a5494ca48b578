import com.sun.management.ThreadMXBean;
import java.lang.management.ManagementFactory;

/** "All calls of one run live in ONE room: some 600,000 objects and arrays": 512 calls, the dearest ones ahead of all. */
public final class RoomTest {
    // An object has 16 bytes at least; a run that takes no more than this has no more objects than the room.
    private static final long ROOM = 600000L * 16;

    private static final Check T = new Check("RoomTest");
    private static int answers;

    public static void main(String[] args) {
        dearestCalls();
        actsAndRows();
        texts();
        T.end();
    }

    private static long taken() {
        return ((ThreadMXBean) ManagementFactory.getThreadMXBean()).getThreadAllocatedBytes(Thread.currentThread().getId());
    }

    private static void dueRoom(String of, long ahead) {
        long bytes = taken() - ahead;
        T.due(of + ": " + bytes + " bytes are too many", bytes > ROOM ? 1 : 0, 0);
        T.due(of + " were asked", answers == 0 ? 1 : 0, 0);
    }

    /** What is foretold for a throw of the widest spread, with five children, of whom some never rest. */
    private static void dearestCalls() {
        long ahead = taken();
        HotPennies x = Check.told("law 0;child glove 0 0 1;child glove 5 0 1;child apron 2 2 9;child big 3 3 9;"
                + "child shy 4 4 9;");
        Check.tellRow(x, 0, 14, 14, 15, 8, 9, 13, 20, 21, 22, 7, 8, 9, 14, 14, 15, 8, 9, 13, 20, 21);
        for (int k = 0; k < 45; k++) {
            answers += x.mean(2, 14, 2, 0) + x.some(2, 14, 2, 6, 0) + x.stand(2, 14, 2) + x.brothers(2, 3, 14, 2, 1);
            answers += x.rounds(14, 2, -1) + x.rounds(14, 0, 0) + x.aim(2, 1) + x.throwsFor(0, -1) + x.cool(2, 14, 2);
            answers += x.stood(0, 0, 20, 2, 9);
        }
        dueRoom("dearest calls", ahead);
    }

    private static void actsAndRows() {
        long ahead = taken();
        HotPennies x = Check.told("law 0;child glove 2 2 1;child big 5 4 1;");
        for (int k = 0; k < 60; k++) {
            answers += x.toss(14, 2, 20, 1 + k) + x.run(1, k % 30) + x.corner(1, 0) + x.undo() + x.ask(1, 0);
            answers += x.image(k % 2) + x.row(k % 8, 2, 40) + x.copy(k % 8, 0, k % 8, 1, 39);
        }
        dueRoom("acts and rows", ahead);
    }

    /** Tapes of 300 bytes, read again and again. */
    private static void texts() {
        long ahead = taken();
        HotPennies x = new HotPennies();
        for (int k = 0; k < 13; k++) {
            answers += Check.read(x, "law 7;" + " ".repeat(294 - 17) + "child shy 1 1 1;" + (k % 2 == 0 ? "" : ";"));
        }
        dueRoom("texts", ahead);
    }
}
