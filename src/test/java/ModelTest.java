import java.util.ArrayList;
import java.util.List;

/** Runs of 512 calls at most that are drawn, on the class and on the model: all answers are alike. */
public final class ModelTest {
    private static final int RUNS = 400, CALLS = 460;
    private static final String[] SORTS = {"small", "big", "apron", "glove", "shy"};
    private static final String[] CRUMBS = {"law", "drain", "child", "small", "big", "apron", "glove", "shy", ";", " ",
        "\n", "0", "5", "6", "9", "10", "20", "21", "100", "1000", "x", "A", "-", "\t", "\u0000", "\u00e9"};

    private final Check t = new Check("ModelTest");
    private final List<String> said = new ArrayList<>();
    private HotPennies x;
    private Model m;
    private long seed;
    private boolean alike;

    public static void main(String[] args) {
        ModelTest test = new ModelTest();
        for (int run = 1; run <= RUNS; run++) {
            test.oneRun(run);
        }
        test.t.end();
    }

    /** A number from 0 on, below n. */
    private int draw(int n) {
        seed = seed * 6364136223846793005L + 1442695040888963407L;
        return (int) ((seed >>> 33) % n);
    }

    /** Mostly a number from least to most, sometimes one beyond, seldom any. */
    private int about(int least, int most) {
        int luck = draw(60);
        if (luck == 0) {
            return least - 1;
        }
        if (luck == 1) {
            return most + 1;
        }
        if (luck == 2) {
            int[] odd = {Integer.MIN_VALUE, Integer.MAX_VALUE, -7, 1 << 30, least - 2, most + 2};
            return odd[draw(odd.length)];
        }
        return least + draw(most - least + 1);
    }

    private void oneRun(int run) {
        seed = run * 1000003L;
        x = new HotPennies();
        m = new Model();
        alike = true;
        said.clear();
        if (run % 8 != 0) {
            feedText(goodText());
            due("square()", x.square(), m.square());
        }
        while (said.size() < CALLS && alike) {
            switch (draw(5)) {
                case 0 -> rows();
                case 1 -> acts();
                case 2 -> foretold();
                case 3 -> asked();
                default -> texts();
            }
        }
    }

    private void due(String call, int got, int want) {
        said.add(call + " = " + got);
        t.due(call, got, want);
        if (got != want) {
            alike = false;
            System.out.println(String.join("\n", said));
        }
    }

    private void rows() {
        int a = about(0, 7) & (draw(3) == 0 ? -1 : 3);
        int b = about(0, 7) & (draw(3) == 0 ? -1 : 3);
        int lane = about(0, 2);
        int n = about(0, draw(2) == 0 ? 40 : 8);
        int i = about(0, draw(2) == 0 ? 40 : 8);
        int j = about(0, draw(2) == 0 ? 40 : 8);
        int v = draw(4) == 0 ? about(-40000, 40000) : about(0, 29);
        switch (draw(7)) {
            case 0, 1 -> due("row(" + a + ", " + lane + ", " + n + ")", x.row(a, lane, n), m.row(a, lane, n));
            case 2, 3 -> due("set(" + a + ", " + i + ", " + v + ")", x.set(a, i, v), m.set(a, i, v));
            case 4, 5 -> due("copy(" + a + ", " + i + ", " + b + ", " + j + ", " + n + ")",
                    x.copy(a, i, b, j, n), m.copy(a, i, b, j, n));
            default -> due("drop(" + a + ")", x.drop(a), m.drop(a));
        }
        due("status()", x.status(), m.status());
    }

    private int drawChild() {
        return about(0, draw(3) == 0 ? 4 : Math.max(m.count(1) - 1, 0));
    }

    private void acts() {
        int child = drawChild();
        int other = drawChild();
        int cell = about(0, 29);
        int what = about(0, 2);
        switch (draw(9)) {
            case 0, 1 -> {
                int spread = about(0, 2);
                int n = about(1, 20);
                int s = about(1, 999999);
                due("toss(" + cell + ", " + spread + ", " + n + ", " + s + ")",
                        x.toss(cell, spread, n, s), m.toss(cell, spread, n, s));
            }
            case 2, 3 -> due("run(" + child + ", " + cell + ")", x.run(child, cell), m.run(child, cell));
            case 4 -> due("corner(" + child + ", " + other + ")", x.corner(child, other), m.corner(child, other));
            case 5 -> due("undo()", x.undo(), m.undo());
            case 6 -> due("child(" + child + ", " + what + ")", x.child(child, what), m.child(child, what));
            case 7 -> due("cell(" + cell + ", " + (what >> 1) + ")", x.cell(cell, what >> 1), m.cell(cell, what >> 1));
            default -> due("power(" + child + ", " + cell + ")", x.power(child, cell), m.power(child, cell));
        }
        if (draw(12) == 0) {
            int k = about(0, 1);
            due("image(" + k + ")", x.image(k), m.image(k));
        }
        if (draw(40) == 0) {
            int k = about(0, 1);
            due("restore(" + k + ")", x.restore(k), m.restore(k));
        }
    }

    private void foretold() {
        int child = drawChild();
        int cell = about(0, 29);
        int spread = about(0, 2);
        int what = about(0, 1);
        String of = "(" + child + ", " + cell + ", " + spread;
        switch (draw(9)) {
            case 0 -> due("mean" + of + ", " + what + ")", x.mean(child, cell, spread, what), m.mean(child, cell, spread, what));
            case 1 -> {
                int n = about(0, 6);
                due("some" + of + ", " + n + ", " + what + ")",
                        x.some(child, cell, spread, n, what), m.some(child, cell, spread, n, what));
            }
            case 2 -> due("stand" + of + ")", x.stand(child, cell, spread), m.stand(child, cell, spread));
            case 3 -> due("cool" + of + ")", x.cool(child, cell, spread), m.cool(child, cell, spread));
            case 4 -> due("aim(" + spread + ", " + what + ")", x.aim(spread, what), m.aim(spread, what));
            case 5 -> stood(child);
            default -> seldomForetold(child, cell, spread, what);
        }
    }

    private void stood(int child) {
        int row = about(0, 7) & (draw(3) == 0 ? -1 : 3);
        int i = about(0, 6);
        int n = about(0, draw(4) == 0 ? 20 : 4);
        int had = about(0, draw(4) == 0 ? 20 : 3);
        due("stood(" + row + ", " + i + ", " + n + ", " + child + ", " + had + ")",
                x.stood(row, i, n, child, had), m.stood(row, i, n, child, had));
        due("status()", x.status(), m.status());
    }

    /** What is dear in the model. */
    private void seldomForetold(int child, int cell, int spread, int what) {
        switch (draw(12)) {
            case 0 -> {
                int b = drawChild();
                due("brothers(" + child + ", " + b + ", " + cell + ", " + spread + ", " + what + ")",
                        x.brothers(child, b, cell, spread, what), m.brothers(child, b, cell, spread, what));
            }
            case 1 -> {
                int one = draw(2) == 0 ? -1 : child;
                due("rounds(" + cell + ", " + spread + ", " + one + ")",
                        x.rounds(cell, spread, one), m.rounds(cell, spread, one));
            }
            case 2 -> {
                int k = about(-1, 3);
                due("throwsFor(" + spread + ", " + k + ")", x.throwsFor(spread, k), m.throwsFor(spread, k));
            }
            default -> {
            }
        }
        due("count(4)", x.count(4), m.count(4));
    }

    private void asked() {
        int child = drawChild();
        int kind = about(0, 5);
        int what = about(0, 1);
        int of = about(0, 6);
        int i = about(0, 6);
        switch (draw(5)) {
            case 0 -> due("kind(" + child + ")", x.kind(child), m.kind(child));
            case 1 -> due("as(" + child + ", " + kind + ")", x.as(child, kind), m.as(child, kind));
            case 2 -> due("ask(" + child + ", " + what + ")", x.ask(child, what), m.ask(child, what));
            case 3 -> due("count(" + of + ")", x.count(of), m.count(of));
            default -> due("trace(" + i + ")", x.trace(i), m.trace(i));
        }
        due("status()", x.status(), m.status());
        due("trace(" + i + ")", x.trace(i), m.trace(i));
    }

    private void texts() {
        if (draw(12) != 0) {
            return;
        }
        if (draw(3) == 0) {
            int n = about(1, 8);
            long w = (long) draw(1 << 30) << 32 | draw(1 << 30);
            due("feed(" + w + ", " + n + ")", x.feed(w, n), m.feed(w, n));
        } else {
            String text = goodText();
            int luck = draw(4);
            for (int k = 0; k < luck; k++) {
                text = spoilt(text);
            }
            feedText(text);
        }
        if (draw(10) != 0) {
            due("square()", x.square(), m.square());
            due("fault()", x.fault(), m.fault());
        }
    }

    private void feedText(String text) {
        for (int at = 0; at < text.length(); at += 8) {
            long w = 0;
            int n = Math.min(8, text.length() - at);
            for (int k = 0; k < n; k++) {
                w = w << 8 | text.charAt(at + k);
            }
            due("feed(" + w + ", " + n + ")", x.feed(w, n), m.feed(w, n));
        }
    }

    private String goodText() {
        StringBuilder s = new StringBuilder("law ").append(draw(draw(2) == 0 ? 21 : 5)).append(';');
        int drains = draw(draw(8) == 0 ? 8 : 4);
        for (int k = 0; k < drains; k++) {
            s.append("drain ").append(draw(6)).append(' ').append(draw(5)).append(';');
        }
        int children = draw(20) == 0 ? draw(8) : 2 + draw(4);
        for (int k = 0; k < children; k++) {
            s.append("child ").append(SORTS[draw(5)]).append(' ').append(draw(6)).append(' ').append(draw(5));
            s.append(' ').append(1 + draw(9)).append(';');
        }
        return s.toString();
    }

    /** A text with one thing in it put in, taken out or doubled. */
    private String spoilt(String text) {
        int at = draw(text.length() + 1);
        int to = Math.min(text.length(), at + 1 + draw(3));
        return switch (draw(3)) {
            case 0 -> text.substring(0, at) + CRUMBS[draw(CRUMBS.length)] + text.substring(at);
            case 1 -> text.substring(0, at) + text.substring(to);
            default -> text.substring(0, to) + text.substring(at);
        };
    }
}
