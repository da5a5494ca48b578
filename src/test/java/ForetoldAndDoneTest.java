import java.math.BigInteger;
import java.util.ArrayList;
import java.util.Arrays;
import java.util.List;

/**
 * What is foretold (section 3 of the terms, promises 16 to 24) is what comes when it is done: on squares that are
 * drawn, each child is really put where he might stand, and each heat is really told.
 *
 * <p>A square is told anew for each question, so that no object is used for more than 512 calls.
 */
public final class ForetoldAndDoneTest {
    private static final int SQUARES = 150;
    private static final String[] SORTS = {"small", "big", "apron", "glove", "shy"};

    private static final Check T = new Check("ForetoldAndDoneTest");

    private long seed = 2026;
    private int heat;
    private String drains;
    private String[] sorts;
    private int[] strengths;
    private int[] cells;

    public static void main(String[] args) {
        ForetoldAndDoneTest test = new ForetoldAndDoneTest();
        for (int square = 0; square < SQUARES; square++) {
            test.drawSquare();
            int cell = test.draw(30);
            int spread = square % 3;
            test.meanAndSome(cell, spread);
            test.stand(cell, spread);
            test.rounds(cell, spread);
            test.aim(spread);
            test.throwsFor(spread);
            test.cool(cell, spread);
            test.stood();
            test.brothers(cell, spread);
        }
        T.end();
    }

    private int draw(int n) {
        seed = seed * 6364136223846793005L + 1442695040888963407L;
        return (int) ((seed >>> 33) % n);
    }

    /** Children crowd about the middle, so that they are in each other's way. */
    private void drawSquare() {
        heat = draw(3) == 0 ? draw(21) : draw(6);
        StringBuilder told = new StringBuilder();
        for (int k = draw(4); k > 0; k--) {
            told.append("drain ").append(draw(6)).append(' ').append(draw(5)).append(';');
        }
        drains = told.toString();
        int n = 1 + draw(5);
        sorts = new String[n];
        strengths = new int[n];
        cells = new int[n];
        for (int c = 0; c < n; c++) {
            sorts[c] = SORTS[draw(5)];
            strengths[c] = 1 + draw(9);
            cells[c] = 6 * draw(5) + draw(6);
        }
    }

    private String text(int law, int[] at) {
        StringBuilder text = new StringBuilder("law ").append(law).append(';').append(drains);
        for (int c = 0; c < sorts.length; c++) {
            text.append("child ").append(sorts[c]).append(' ').append(at[c] % 6).append(' ').append(at[c] / 6);
            text.append(' ').append(strengths[c]).append(';');
        }
        return text.toString();
    }

    private HotPennies told() {
        return Check.told(text(heat, cells));
    }

    private HotPennies toldAt(int child, int cell) {
        int[] at = cells.clone();
        at[child] = cell;
        return Check.told(text(heat, at));
    }

    private String of(String call) {
        return call + " of '" + text(heat, cells) + "'";
    }

    /** Where a penny lands by each way: a cell, or -1. */
    private static List<Integer> ways(int cell, int spread) {
        List<Integer> ways = new ArrayList<>();
        for (int y = -2; y < 7; y++) {
            for (int x = -2; x < 8; x++) {
                int far = Math.abs(x - cell % 6) + Math.abs(y - cell / 6);
                for (int k = 0; k < spread + 1 - far; k++) {
                    ways.add(x < 0 || x > 5 || y < 0 || y > 4 ? -1 : 6 * y + x);
                }
            }
        }
        return ways;
    }

    /** By how many ways one picks, by what cell() tells now. */
    private static int picks(HotPennies x, int child, List<Integer> lands) {
        int many = 0;
        int[] pickers = new int[30];
        Arrays.fill(pickers, -1);
        for (int land : lands) {
            if (land >= 0 && pickers[land] == -1) {
                pickers[land] = x.cell(land, 0);
            }
            many += land >= 0 && pickers[land] == child ? 1 : 0;
        }
        return many;
    }

    private static void dueFraction(String of, int above, int below, BigInteger dueAbove, BigInteger dueBelow) {
        BigInteger divisor = dueAbove.gcd(dueBelow);
        T.due(of + ", above", above, dueAbove.divide(divisor).intValueExact());
        T.due(of + ", below", below, dueBelow.divide(divisor).intValueExact());
    }

    /** "MEAN ..: WAYS by which he PICKS it, by all WAYS", "SOME: how likely it is that he PICKS one at least of n" */
    private void meanAndSome(int cell, int spread) {
        List<Integer> ways = ways(cell, spread);
        for (int c = 0; c < cells.length; c++) {
            HotPennies x = told();
            int picks = picks(x, c, ways);
            BigInteger all = BigInteger.valueOf(ways.size());
            dueFraction(of("mean(" + c + ", " + cell + ", " + spread + ", ..)"), x.mean(c, cell, spread, 0),
                    x.mean(c, cell, spread, 1), BigInteger.valueOf(picks), all);
            for (int n = 0; n <= 6; n++) {
                BigInteger none = BigInteger.valueOf(ways.size() - picks).pow(n);
                dueFraction(of("some(" + c + ", " + cell + ", " + spread + ", " + n + ", ..)"),
                        x.some(c, cell, spread, n, 0), x.some(c, cell, spread, n, 1), all.pow(n).subtract(none), all.pow(n));
            }
        }
    }

    /** The CELL in which he has most, if he is put there. */
    private int bestOf(int child, List<Integer> ways) {
        int best = -1;
        int most = -1;
        for (int cell = 0; cell < 30; cell++) {
            int picks = picks(toldAt(child, cell), child, ways);
            if (picks > most) {
                most = picks;
                best = cell;
            }
        }
        return best;
    }

    /** "STAND ..: the CELL in which he would have the greatest MEAN, of several the least" */
    private void stand(int cell, int spread) {
        for (int c = 0; c < cells.length; c++) {
            T.due(of("stand(" + c + ", " + cell + ", " + spread + ")"), told().stand(c, cell, spread),
                    bestOf(c, ways(cell, spread)));
        }
    }

    /** "BROTHERS: CELLS of two of them so that both their MEANS together are greatest ..": each pair of cells. */
    private void brothers(int cell, int spread) {
        if (cells.length < 2) {
            return;
        }
        int a = draw(cells.length);
        int b = (a + 1 + draw(cells.length - 1)) % cells.length;
        List<Integer> ways = ways(cell, spread);
        int[] home = cells.clone();
        int most = -1;
        int best = -1;
        for (int pair = 0; pair < 900; pair++) {
            cells[a] = pair / 30;
            cells[b] = pair % 30;
            HotPennies x = told();
            int picks = picks(x, a, ways) + picks(x, b, ways);
            if (picks > most) {
                most = picks;
                best = pair;
            }
        }
        cells = home;
        String call = "brothers(" + a + ", " + b + ", " + cell + ", " + spread + ", ";
        T.due(of(call + "0)"), told().brothers(a, b, cell, spread, 0), best / 30);
        T.due(of(call + "1)"), told().brothers(a, b, cell, spread, 1), best % 30);
    }

    /** "ROUNDS ..: CHILDREN 0 on go where their STAND is, one after another, round by round": they really run. */
    private void rounds(int cell, int spread) {
        HotPennies x = told();
        int due = Check.NONE;
        for (int round = 1; round <= 20 && due == Check.NONE; round++) {
            int gone = 0;
            for (int c = 0; c < cells.length; c++) {
                int to = x.stand(c, cell, spread);
                gone += x.child(c, 0) == to ? 0 : 1;
                x.run(c, to);
            }
            due = gone == 0 ? round : Check.NONE;
        }
        T.due(of("rounds(" + cell + ", " + spread + ", -1)"), told().rounds(cell, spread, -1), due);
        for (int c = 0; c < cells.length; c++) {
            T.due(of("rounds(" + cell + ", " + spread + ", " + c + ")"), told().rounds(cell, spread, c),
                    due == Check.NONE ? Check.NONE : x.child(c, 0));
        }
    }

    /** For each cell, the children (bits) whose MEAN is above 0. */
    private int[] pleased(int spread) {
        int[] who = new int[30];
        for (int c = 0; c < cells.length; c++) {
            HotPennies x = told();
            for (int cell = 0; cell < 30; cell++) {
                who[cell] |= x.mean(c, cell, spread, 0) > 0 ? 1 << c : 0;
            }
        }
        return who;
    }

    /** "AIM ..: the CELL at which most CHILDREN have a MEAN above 0, of several the least; how many" */
    private void aim(int spread) {
        int[] who = pleased(spread);
        int best = 0;
        for (int cell = 1; cell < 30; cell++) {
            best = Integer.bitCount(who[cell]) > Integer.bitCount(who[best]) ? cell : best;
        }
        T.due(of("aim(" + spread + ", 0)"), told().aim(spread, 0), best);
        T.due(of("aim(" + spread + ", 1)"), told().aim(spread, 1), Integer.bitCount(who[best]));
    }

    /** "THROWS ..: the fewest CELLS (3 at most) to throw at so that each CHILD has a MEAN above 0 by one of them" */
    private void throwsFor(int spread) {
        int[] row = fewest(pleased(spread), (1 << cells.length) - 1);
        HotPennies x = told();
        T.due(of("throwsFor(" + spread + ", -1)"), x.throwsFor(spread, -1), row == null ? Check.NONE : row.length);
        for (int k = 0; k < 4; k++) {
            int due = row == null || k >= row.length ? Check.NONE : row[k];
            T.due(of("throwsFor(" + spread + ", " + k + ")"), x.throwsFor(spread, k), due);
        }
    }

    /** Rows of one, of two, of three cells in their order: the first by which all are pleased. */
    private static int[] fewest(int[] who, int all) {
        int[] two = null;
        int[] three = null;
        for (int a = 0; a < 30; a++) {
            if (who[a] == all) {
                return new int[] {a};
            }
            for (int b = 0; b < 30; b++) {
                if (two == null && (who[a] | who[b]) == all) {
                    two = new int[] {a, b};
                }
                for (int c = 0; c < 30 && two == null && three == null; c++) {
                    if ((who[a] | who[b] | who[c]) == all) {
                        three = new int[] {a, b, c};
                    }
                }
            }
        }
        return two != null ? two : three;
    }

    /** "COOL ..: the least HEAT (0 to 20) by which his MEAN is 0; NONE.": each heat is told. */
    private void cool(int cell, int spread) {
        for (int c = 0; c < cells.length; c++) {
            int due = Check.NONE;
            for (int law = 20; law >= 0; law--) {
                due = Check.told(text(law, cells)).mean(c, cell, spread, 0) == 0 ? law : due;
            }
            T.due(of("cool(" + c + ", " + cell + ", " + spread + ")"), told().cool(c, cell, spread), due);
        }
    }

    /** "STOOD: n pennies landed in CELLS that a row tells, and a CHILD had just so many of them": put in each cell. */
    private void stood() {
        List<Integer> lands = new ArrayList<>();
        for (int n = draw(21); n > 0; n--) {
            lands.add(draw(30));
        }
        int child = draw(cells.length);
        int[] bits = new int[21];
        for (int cell = 0; cell < 30; cell++) {
            bits[picks(toldAt(child, cell), child, lands)] |= 1 << cell;
        }
        HotPennies x = told();
        Check.tellRow(x, 4, lands.stream().mapToInt(Integer::intValue).toArray());
        for (int had = 0; had <= 20; had++) {
            T.due(of("stood(4, 0, " + lands.size() + ", " + child + ", " + had + ") by " + lands),
                    x.stood(4, 0, lands.size(), child, had), bits[had]);
        }
    }
}
