import java.math.BigInteger;
import java.util.ArrayDeque;
import java.util.ArrayList;
import java.util.Arrays;
import java.util.Deque;
import java.util.List;
import java.util.TreeSet;

/**
 * The document once more, in the plainest way and with the whole library, to compare with.
 *
 * <p>It shares no code and no way of reckoning with the class: all that is foretold is tried out.
 */
final class Model {
    static final int NONE = -1000000, BAD = -1000001, STATE = -1000002, FULL = -1000003;
    private static final List<String> SORTS = List.of("", "small", "big", "shy", "glove", "apron");
    private static final int[] ABOVE = {-1, 0, 1, 1, 0, 4};

    record Kid(int kind, int strength, int cell, int pennies) {
        Kid at(int newCell) {
            return new Kid(kind, strength, newCell, pennies);
        }

        Kid with(int newPennies) {
            return new Kid(kind, strength, cell, newPennies);
        }

        int might() {
            return kind == 2 ? strength + strength : strength;
        }
    }

    record Place(int heat, TreeSet<Integer> drains, List<Kid> kids) {
        Place moved(int child, int cell) {
            return changed(child, kids.get(child).at(cell));
        }

        Place changed(int child, Kid kid) {
            List<Kid> list = new ArrayList<>(kids);
            list.set(child, kid);
            return new Place(heat, drains, list);
        }

        int power(int child, int cell) {
            Kid k = kids.get(child);
            int d = Math.abs(k.cell() % 6 - cell % 6) + Math.abs(k.cell() / 6 - cell / 6);
            int p = switch (k.kind()) {
                case 1 -> k.strength() * (2 - d) - heat;
                case 2 -> 2 * k.strength() * (2 - d) - heat;
                case 3 -> d > 0 ? 0 : k.strength() * 2 - heat;
                case 4 -> k.strength() * (2 - d);
                case 5 -> k.strength() * (3 - d);
                default -> throw new IllegalStateException();
            };
            return p < 0 ? 0 : p;
        }

        int picker(int cell) {
            int who = -1;
            for (int c = kids.size() - 1; c >= 0 && cell >= 0 && !drains.contains(cell); c--) {
                if (power(c, cell) > 0 && (who < 0 || power(c, cell) >= power(who, cell))) {
                    who = c;
                }
            }
            return who;
        }

        int ways(int child, List<Integer> lands) {
            int n = 0;
            for (int land : lands) {
                n += picker(land) == child ? 1 : 0;
            }
            return n;
        }

        int best(int child, List<Integer> lands) {
            int best = 0;
            for (int cell = 0; cell < 30; cell++) {
                if (moved(child, cell).ways(child, lands) > moved(child, best).ways(child, lands)) {
                    best = cell;
                }
            }
            return best;
        }
    }

    private static final class Fault extends RuntimeException {
        private static final long serialVersionUID = 1;
        final int place;
        final int number;

        Fault(int place, int number) {
            this.place = place;
            this.number = number;
        }
    }

    private final List<int[]> rows = new ArrayList<>();
    private final int[] lanes = new int[8];
    private String tape = "";
    private Place now;
    private final Deque<Place> acts = new ArrayDeque<>();
    private final Place[] images = new Place[2];
    private List<Integer> trace = new ArrayList<>();
    private int fault;
    private int status;

    Model() {
        for (int i = 0; i < 8; i++) {
            rows.add(null);
        }
    }

    // ---- rows

    private int found(int number) {
        status = number;
        return -1000010 - number;
    }

    private int good(int answer) {
        status = 0;
        return answer;
    }

    private static boolean in(int v, int least, int most) {
        return v >= least && v <= most;
    }

    int row(int row, int lane, int n) {
        if (!in(row, 0, 7) || !in(lane, 0, 2) || n > 40) {
            return BAD;
        }
        if (n < 0) {
            return found(4);
        }
        rows.set(row, new int[n]);
        lanes[row] = lane;
        return good(n);
    }

    int set(int row, int i, int v) {
        if (!in(row, 0, 7)) {
            return BAD;
        }
        int[] r = rows.get(row);
        if (r == null) {
            return found(1);
        }
        if (!in(i, 0, r.length - 1)) {
            return found(2);
        }
        int shift = new int[] {24, 16, 0}[lanes[row]];
        r[i] = v << shift >> shift;
        return good(r[i]);
    }

    int copy(int a, int i, int b, int j, int n) {
        if (!in(a, 0, 7) || !in(b, 0, 7)) {
            return BAD;
        }
        int[] from = rows.get(a);
        int[] to = rows.get(b);
        if (from == null || to == null) {
            return found(1);
        }
        if (lanes[a] != lanes[b]) {
            return found(5);
        }
        if (i < 0 || j < 0 || n < 0 || (long) i + n > from.length || (long) j + n > to.length) {
            return found(2);
        }
        int[] ahead = from.clone();
        for (int k = 0; k < n; k++) {
            to[j + k] = ahead[i + k];
        }
        return good(n);
    }

    int drop(int row) {
        if (!in(row, 0, 7)) {
            return BAD;
        }
        int[] r = rows.get(row);
        if (r == null) {
            return found(1);
        }
        rows.set(row, null);
        return good(r.length);
    }

    // ---- squares, acts

    int feed(long w, int n) {
        if (!in(n, 1, 8)) {
            return BAD;
        }
        if (tape.length() + n > 300) {
            return FULL;
        }
        StringBuilder s = new StringBuilder();
        for (int k = 0; k < n; k++) {
            s.insert(0, (char) (w >> 8 * k & 255));
        }
        tape += s;
        return tape.length();
    }

    /** The tokens as {place, text}; the last one is the end. */
    private static List<Object[]> tokens(String text) {
        List<Object[]> list = new ArrayList<>();
        var m = java.util.regex.Pattern.compile("[a-z]+|[0-9]+|[^ \n]", java.util.regex.Pattern.DOTALL).matcher(text);
        while (m.find()) {
            list.add(new Object[] {m.start(), m.group()});
        }
        list.add(new Object[] {text.length(), ""});
        return list;
    }

    private List<Object[]> tokens;

    private String next() {
        return (String) tokens.get(0)[1];
    }

    private Fault wrong(int number) {
        return new Fault((Integer) tokens.get(0)[0], number);
    }

    private void take(String word) {
        if (!next().equals(word)) {
            throw wrong(1);
        }
        tokens.remove(0);
    }

    private int number(int least, int most) {
        if (!next().matches("[0-9]{1,3}")) {
            throw wrong(1);
        }
        int v = Integer.parseInt(next());
        if (!in(v, least, most)) {
            throw wrong(2);
        }
        tokens.remove(0);
        return v;
    }

    private Place parse(String text) {
        tokens = tokens(text);
        take("law");
        int heat = number(0, 20);
        take(";");
        TreeSet<Integer> drains = new TreeSet<>();
        for (int k = 0; next().equals("drain"); k++) {
            if (k == 6) {
                throw wrong(3);
            }
            take("drain");
            int x = number(0, 5);
            drains.add(x + 6 * number(0, 4));
            take(";");
        }
        List<Kid> kids = new ArrayList<>();
        while (next().equals("child")) {
            if (kids.size() == 5) {
                throw wrong(3);
            }
            take("child");
            int kind = SORTS.indexOf(next());
            if (kind < 1) {
                throw wrong(1);
            }
            take(next());
            int x = number(0, 5);
            int y = number(0, 4);
            kids.add(new Kid(kind, number(1, 9), 6 * y + x, 0));
            take(";");
        }
        if (tokens.size() > 1) {
            throw wrong(1);
        }
        return new Place(heat, drains, kids);
    }

    int square() {
        String text = tape;
        tape = "";
        try {
            now = parse(text);
        } catch (Fault f) {
            fault = f.number;
            return -1000100 - f.place;
        }
        acts.clear();
        return now.kids().size();
    }

    int fault() {
        return fault;
    }

    private void keep() {
        acts.push(now);
        if (acts.size() > 24) {
            acts.removeLast();
        }
    }

    private boolean isChild(int child) {
        return now != null && in(child, 0, now.kids().size() - 1);
    }

    private static List<Integer> lands(int cell, int spread) {
        List<Integer> lands = new ArrayList<>();
        for (int y = -5; y <= 10; y++) {
            for (int x = -5; x <= 10; x++) {
                int far = Math.abs(x - cell % 6) + Math.abs(y - cell / 6);
                for (int k = far; k <= spread; k++) {
                    lands.add(in(x, 0, 5) && in(y, 0, 4) ? x + 6 * y : -1);
                }
            }
        }
        return lands;
    }

    int toss(int cell, int spread, int n, int seed) {
        if (now == null) {
            return STATE;
        }
        if (!in(cell, 0, 29) || !in(spread, 0, 2) || !in(n, 1, 20) || !in(seed, 1, 999999)) {
            return BAD;
        }
        for (Kid k : now.kids()) {
            if (k.pennies() + n > 9999) {
                return FULL;
            }
        }
        keep();
        BigInteger x = BigInteger.valueOf(seed);
        List<Integer> lands = lands(cell, spread);
        int picked = 0;
        for (int k = 0; k < n; k++) {
            x = x.multiply(BigInteger.valueOf(16807)).mod(BigInteger.valueOf(2147483647));
            int land = lands.get(x.mod(BigInteger.valueOf(lands.size())).intValue());
            int who = now.picker(land);
            if (who >= 0) {
                now = now.changed(who, now.kids().get(who).with(now.kids().get(who).pennies() + 1));
                picked++;
            }
        }
        return picked;
    }

    int run(int child, int cell) {
        if (!isChild(child) || !in(cell, 0, 29)) {
            return BAD;
        }
        keep();
        int from = now.kids().get(child).cell();
        now = now.moved(child, cell);
        return Math.abs(from % 6 - cell % 6) + Math.abs(from / 6 - cell / 6);
    }

    int corner(int child, int other) {
        if (!isChild(child) || !isChild(other) || child == other) {
            return BAD;
        }
        Kid a = now.kids().get(child);
        Kid b = now.kids().get(other);
        if (b.might() >= a.might()) {
            return STATE;
        }
        int half = b.pennies() / 2;
        if (a.pennies() + half > 9999) {
            return FULL;
        }
        keep();
        now = now.changed(child, a.with(a.pennies() + half)).changed(other, b.with(b.pennies() - half));
        return half;
    }

    int undo() {
        if (acts.isEmpty()) {
            return STATE;
        }
        now = acts.pop();
        return acts.size();
    }

    int child(int child, int what) {
        if (!isChild(child) || !in(what, 0, 2)) {
            return BAD;
        }
        Kid k = now.kids().get(child);
        return new int[] {k.cell(), k.strength(), k.pennies()}[what];
    }

    int cell(int cell, int what) {
        if (now == null) {
            return STATE;
        }
        if (!in(cell, 0, 29) || !in(what, 0, 1)) {
            return BAD;
        }
        if (what == 1) {
            return now.drains().contains(cell) ? 1 : 0;
        }
        return now.picker(cell) < 0 ? NONE : now.picker(cell);
    }

    int power(int child, int cell) {
        return isChild(child) && in(cell, 0, 29) ? now.power(child, cell) : BAD;
    }

    // ---- foretold

    private boolean isThrow(int child, int cell, int spread) {
        return isChild(child) && in(cell, 0, 29) && in(spread, 0, 2);
    }

    private static int part(BigInteger above, BigInteger below, int what) {
        BigInteger g = above.gcd(below);
        return (what == 0 ? above : below).divide(g).intValueExact();
    }

    int mean(int child, int cell, int spread, int what) {
        return some(child, cell, spread, 1, what);
    }

    int some(int child, int cell, int spread, int n, int what) {
        if (!isThrow(child, cell, spread) || !in(n, 0, 6) || !in(what, 0, 1)) {
            return BAD;
        }
        List<Integer> lands = lands(cell, spread);
        BigInteger all = BigInteger.valueOf(lands.size()).pow(n);
        BigInteger without = BigInteger.valueOf(lands.size() - now.ways(child, lands)).pow(n);
        return part(all.subtract(without), all, what);
    }

    int stand(int child, int cell, int spread) {
        return isThrow(child, cell, spread) ? now.best(child, lands(cell, spread)) : BAD;
    }

    int brothers(int a, int b, int cell, int spread, int what) {
        if (!isThrow(a, cell, spread) || !isChild(b) || a == b || !in(what, 0, 1)) {
            return BAD;
        }
        List<Integer> lands = lands(cell, spread);
        int most = -1;
        int[] best = new int[2];
        for (int p = 0; p < 30; p++) {
            for (int q = 0; q < 30; q++) {
                Place tried = now.moved(a, p).moved(b, q);
                int many = tried.ways(a, lands) + tried.ways(b, lands);
                if (many > most) {
                    most = many;
                    best = new int[] {p, q};
                }
            }
        }
        return best[what];
    }

    int rounds(int cell, int spread, int child) {
        if (now == null) {
            return STATE;
        }
        if (!in(cell, 0, 29) || !in(spread, 0, 2) || child != -1 && !isChild(child)) {
            return BAD;
        }
        Place tried = now;
        for (int round = 1; round <= 20; round++) {
            List<Integer> ahead = tried.kids().stream().map(Kid::cell).toList();
            for (int c = 0; c < tried.kids().size(); c++) {
                tried = tried.moved(c, tried.best(c, lands(cell, spread)));
            }
            if (tried.kids().stream().map(Kid::cell).toList().equals(ahead)) {
                return child == -1 ? round : ahead.get(child);
            }
        }
        return NONE;
    }

    private TreeSet<Integer> pleased(int cell, int spread) {
        TreeSet<Integer> who = new TreeSet<>();
        for (int land : lands(cell, spread)) {
            who.add(now.picker(land));
        }
        who.remove(-1);
        return who;
    }

    int aim(int spread, int what) {
        if (now == null) {
            return STATE;
        }
        if (!in(spread, 0, 2) || !in(what, 0, 1)) {
            return BAD;
        }
        int best = 0;
        for (int cell = 29; cell >= 0; cell--) {
            best = pleased(cell, spread).size() >= pleased(best, spread).size() ? cell : best;
        }
        return what == 0 ? best : pleased(best, spread).size();
    }

    int throwsFor(int spread, int k) {
        if (now == null) {
            return STATE;
        }
        if (!in(spread, 0, 2) || k < -1) {
            return BAD;
        }
        if (now.kids().isEmpty()) {
            return k == -1 ? 0 : NONE;
        }
        List<TreeSet<Integer>> sets = new ArrayList<>();
        for (int cell = 0; cell < 30; cell++) {
            sets.add(pleased(cell, spread));
        }
        int[] best = null;
        for (int a = 0; a < 30; a++) {
            for (int b = a; b < 30; b++) {
                for (int c = b; c < 30; c++) {
                    TreeSet<Integer> all = new TreeSet<>(sets.get(a));
                    all.addAll(sets.get(b));
                    all.addAll(sets.get(c));
                    if (all.size() == now.kids().size()) {
                        int[] row = Arrays.stream(new int[] {a, b, c}).distinct().toArray();
                        if (best == null || row.length < best.length
                                || row.length == best.length && Arrays.compare(row, best) < 0) {
                            best = row;
                        }
                    }
                }
            }
        }
        if (best == null) {
            return NONE;
        }
        return k == -1 ? best.length : k < best.length ? best[k] : NONE;
    }

    int cool(int child, int cell, int spread) {
        if (!isThrow(child, cell, spread)) {
            return BAD;
        }
        for (int heat = 0; heat <= 20; heat++) {
            if (new Place(heat, now.drains(), now.kids()).ways(child, lands(cell, spread)) == 0) {
                return heat;
            }
        }
        return NONE;
    }

    int stood(int row, int i, int n, int child, int had) {
        if (!in(row, 0, 7) || !in(n, 0, 20) || !isChild(child) || !in(had, 0, 20)) {
            return BAD;
        }
        int[] r = rows.get(row);
        if (r == null) {
            return found(1);
        }
        if (i < 0 || (long) i + n > r.length) {
            return found(2);
        }
        List<Integer> lands = new ArrayList<>();
        for (int k = i; k < i + n; k++) {
            if (!in(r[k], 0, 29)) {
                return BAD;
            }
            lands.add(r[k]);
        }
        int bits = 0;
        for (int cell = 0; cell < 30; cell++) {
            bits += now.moved(child, cell).ways(child, lands) == had ? 1 << cell : 0;
        }
        return good(bits);
    }

    int image(int k) {
        if (!in(k, 0, 1)) {
            return BAD;
        }
        if (now == null) {
            return STATE;
        }
        images[k] = now;
        return 1;
    }

    int restore(int k) {
        if (!in(k, 0, 1)) {
            return BAD;
        }
        if (images[k] == null) {
            return STATE;
        }
        now = images[k];
        acts.clear();
        return 1;
    }

    // ---- asked

    int kind(int child) {
        return isChild(child) ? now.kids().get(child).kind() : BAD;
    }

    int as(int child, int kind) {
        if (!isChild(child) || !in(kind, 0, 5)) {
            return BAD;
        }
        for (int k = now.kids().get(child).kind(); k >= 0; k = ABOVE[k]) {
            if (k == kind) {
                return good(child);
            }
        }
        return found(3);
    }

    int ask(int child, int what) {
        if (!isChild(child) || !in(what, 0, 1)) {
            return BAD;
        }
        trace = new ArrayList<>();
        return ask(child, what, kind(child));
    }

    /** The body that an ask begins for a kind: its own, or that of the nearest kind above it. */
    private int ask(int child, int what, int kind) {
        int[][] own = {{10, 11, 12, 0, 13, 14}, {20, 21, 24, 22, 23, 0}};
        int k = kind;
        while (own[what][k] == 0) {
            k = ABOVE[k];
        }
        trace.add(own[what][k]);
        Kid kid = now.kids().get(child);
        return switch (own[what][k]) {
            case 10 -> kid.strength();
            case 11 -> ask(child, 0, 0) + ask(child, 1, kid.kind());
            case 12 -> 0 - ask(child, 0, 1);
            case 13 -> ask(child, 0, 0) - 100;
            case 14 -> 2 * ask(child, 0, 4);
            case 20 -> child;
            case 21 -> ask(child, 1, 0) + kid.cell();
            case 22 -> ask(child, 1, 1) - 1000;
            case 23 -> ask(child, 1, 0) - ask(child, 0, kid.kind());
            case 24 -> 2 * ask(child, 1, 1);
            default -> throw new IllegalStateException();
        };
    }

    int trace(int i) {
        return in(i, 0, Math.min(trace.size(), 16) - 1) ? trace.get(i) : NONE;
    }

    int count(int what) {
        return switch (what) {
            case 0 -> (int) rows.stream().filter(r -> r != null).count();
            case 1 -> now == null ? 0 : now.kids().size();
            case 2 -> now == null ? 0 : now.drains().size();
            case 3 -> now == null ? 0 : now.heat();
            case 4 -> acts.size();
            case 5 -> now == null ? 0 : now.kids().stream().mapToInt(Kid::pennies).sum();
            case 6 -> tape.length();
            default -> BAD;
        };
    }

    int status() {
        return status;
    }
}
