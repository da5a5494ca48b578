import java.util.Arrays;

/**
 * Hot pennies that are thrown from a window to children who stand in a square of cells.
 *
 * <p>All that the calls need is made together with the object: no call makes an object or an array.
 */
public final class HotPennies {
    public static final int NONE = -1000000, BAD = -1000001, STATE = -1000002, FULL = -1000003;

    private static final int FINDINGS = -1000010, FAULTS = -1000100;
    private static final int NULL = 1, PLACE = 2, KIND = 3, SIZE = 4, STORE = 5;

    private static final int CHILD = 0, SMALL = 1, BIG = 2, SHY = 3, GLOVE = 4, APRON = 5;

    private static final int ROWS = 8, MOST_ITEMS = 40, MISSING = -1;
    private static final int BYTES = 0, SHORTS = 1, INTS = 2;

    private static final int WIDTH = 6, HEIGHT = 5, CELLS = 30, BEYOND = -1;
    private static final int MOST_HEAT = 20, MOST_DRAINS = 6, MOST_CHILDREN = 5, MOST_STRENGTH = 9;
    private static final int NOBODY = -1, NEVER = 1000;

    private static final int MOST_SPREAD = 2, MOST_THROWN = 20, MOST_SEED = 999999, MOST_PENNIES = 9999;
    private static final int MOST_ACTS = 24, MOST_TRIES = 6, MOST_ROUNDS = 20, MOST_THROWS = 3;
    private static final int IMAGES = 2, MOST_TRACE = 16;

    private final Row[] rows = new Row[ROWS];
    private final Tape tape = new Tape();
    // The square that is; one that is being read, which may have a fault; one that is tried out.
    private final Square now = new Square();
    private final Square draft = new Square();
    private final Square trial = new Square();
    private final Square[] images = new Square[IMAGES];
    private final Acts acts = new Acts();
    private final Landing landing = new Landing();
    // By cells: the ways (bits) of one child and of his brother, the children (bits) who have some.
    private final int[] picks = new int[CELLS];
    private final int[] otherPicks = new int[CELLS];
    private final int[] pleased = new int[CELLS];
    private final int[] chosen = new int[MOST_THROWS];
    private final Asks asks = new Asks();
    private int latestFault;
    private int finding;

    public HotPennies() {
        for (int i = 0; i < rows.length; i++) {
            rows[i] = new Row();
        }
        for (int i = 0; i < images.length; i++) {
            images[i] = new Square();
        }
    }

    // ---- rows

    public int row(int row, int lane, int n) {
        Row r = rowAt(row);
        if (r == null || lane < BYTES || lane > INTS || n > MOST_ITEMS) {
            return BAD;
        }
        if (n < 0) {
            return found(SIZE);
        }
        r.begin(lane, n);
        return nothingFound(n);
    }

    public int set(int row, int i, int v) {
        Row r = rowAt(row);
        if (r == null) {
            return BAD;
        }
        if (r.isMissing()) {
            return found(NULL);
        }
        if (!r.holds(i, 1)) {
            return found(PLACE);
        }
        return nothingFound(r.put(i, v));
    }

    public int copy(int a, int i, int b, int j, int n) {
        Row from = rowAt(a);
        Row to = rowAt(b);
        if (from == null || to == null) {
            return BAD;
        }
        if (from.isMissing() || to.isMissing()) {
            return found(NULL);
        }
        if (from.lane != to.lane) {
            return found(STORE);
        }
        if (!from.holds(i, n) || !to.holds(j, n)) {
            return found(PLACE);
        }
        System.arraycopy(from.items, i, to.items, j, n);
        return nothingFound(n);
    }

    public int drop(int row) {
        Row r = rowAt(row);
        if (r == null) {
            return BAD;
        }
        if (r.isMissing()) {
            return found(NULL);
        }
        int had = r.size;
        r.size = MISSING;
        return nothingFound(had);
    }

    // ---- squares, acts

    public int feed(long w, int n) {
        if (n < 1 || n > 8) {
            return BAD;
        }
        if (!tape.hasRoomFor(n)) {
            return FULL;
        }
        for (int k = n - 1; k >= 0; k--) {
            tape.add((int) (w >>> (8 * k)) & 255);
        }
        return tape.length;
    }

    public int square() {
        draft.clear();
        boolean good = tape.read(draft);
        tape.length = 0;
        if (!good) {
            latestFault = tape.fault;
            return FAULTS - tape.start;
        }
        draft.told = true;
        now.takeFrom(draft);
        acts.count = 0;
        return now.children;
    }

    public int fault() {
        return latestFault;
    }

    public int toss(int cell, int spread, int n, int seed) {
        if (!now.told) {
            return STATE;
        }
        if (!isCell(cell) || !isSpread(spread) || n < 1 || n > MOST_THROWN || seed < 1 || seed > MOST_SEED) {
            return BAD;
        }
        if (now.mostPennies() + n > MOST_PENNIES) {
            return FULL;
        }
        acts.keep(now);
        landing.throwAt(cell, spread);
        return throwPennies(n, seed);
    }

    public int run(int child, int cell) {
        Child c = now.at(child);
        if (c == null || !isCell(cell)) {
            return BAD;
        }
        acts.keep(now);
        int far = far(c.cell, cell);
        c.cell = cell;
        return far;
    }

    public int corner(int child, int other) {
        Child taker = now.at(child);
        Child giver = now.at(other);
        if (taker == null || giver == null || child == other) {
            return BAD;
        }
        if (giver.might() >= taker.might()) {
            return STATE;
        }
        int taken = giver.pennies / 2;
        if (taker.pennies + taken > MOST_PENNIES) {
            return FULL;
        }
        acts.keep(now);
        giver.pennies -= taken;
        taker.pennies += taken;
        return taken;
    }

    public int undo() {
        return acts.takeBack(now) ? acts.count : STATE;
    }

    public int child(int child, int what) {
        Child c = now.at(child);
        if (c == null) {
            return BAD;
        }
        switch (what) {
            case 0: return c.cell;
            case 1: return c.strength;
            case 2: return c.pennies;
            default: return BAD;
        }
    }

    public int cell(int cell, int what) {
        if (!now.told) {
            return STATE;
        }
        if (!isCell(cell) || !isEither(what)) {
            return BAD;
        }
        if (what == 1) {
            return now.isDry(cell) ? 0 : 1;
        }
        int picker = now.pickerAt(cell);
        return picker == NOBODY ? NONE : picker;
    }

    public int power(int child, int cell) {
        Child c = now.at(child);
        if (c == null || !isCell(cell)) {
            return BAD;
        }
        return c.powerBy(far(c.cell, cell), now.heat);
    }

    // ---- foretold

    public int mean(int child, int cell, int spread, int what) {
        if (now.at(child) == null || !isCell(cell) || !isSpread(spread) || !isEither(what)) {
            return BAD;
        }
        landing.throwAt(cell, spread);
        return fractionPart(landing.countPickedBy(now, child), landing.count, what);
    }

    public int some(int child, int cell, int spread, int n, int what) {
        if (now.at(child) == null || !isCell(cell) || !isSpread(spread) || n < 0 || n > MOST_TRIES || !isEither(what)) {
            return BAD;
        }
        landing.throwAt(cell, spread);
        int all = landing.count;
        int missed = all - landing.countPickedBy(now, child);
        int allRows = 1;
        int missedRows = 1;
        for (int k = 0; k < n; k++) {
            allRows *= all;
            missedRows *= missed;
        }
        return fractionPart(allRows - missedRows, allRows, what);
    }

    public int stand(int child, int cell, int spread) {
        if (now.at(child) == null || !isCell(cell) || !isSpread(spread)) {
            return BAD;
        }
        landing.throwAt(cell, spread);
        return bestCell(now, child);
    }

    public int brothers(int a, int b, int cell, int spread, int what) {
        boolean two = now.at(a) != null && now.at(b) != null && a != b;
        if (!two || !isCell(cell) || !isSpread(spread) || !isEither(what)) {
            return BAD;
        }
        landing.throwAt(cell, spread);
        landing.weigh(now, a, b, picks);
        landing.weigh(now, b, a, otherPicks);
        int pair = bestPair();
        return what == 0 ? pair / CELLS : pair % CELLS;
    }

    public int rounds(int cell, int spread, int child) {
        if (!now.told) {
            return STATE;
        }
        if (!isCell(cell) || !isSpread(spread) || child != -1 && now.at(child) == null) {
            return BAD;
        }
        trial.takeFrom(now);
        landing.throwAt(cell, spread);
        int rounds = settle();
        Child c = trial.at(child);
        return rounds == NONE || c == null ? rounds : c.cell;
    }

    public int aim(int spread, int what) {
        if (!now.told) {
            return STATE;
        }
        if (!isSpread(spread) || !isEither(what)) {
            return BAD;
        }
        tellPleased(spread);
        int cell = largest(pleased);
        landing.throwAt(cell, spread);
        return what == 0 ? cell : Integer.bitCount(landing.pickers(now));
    }

    public int throwsFor(int spread, int k) {
        if (!now.told) {
            return STATE;
        }
        if (!isSpread(spread) || k < -1) {
            return BAD;
        }
        tellPleased(spread);
        int fewest = fewestThrows((1 << now.children) - 1);
        if (fewest == NONE || k == -1) {
            return fewest;
        }
        return k >= 0 && k < fewest && k < chosen.length ? chosen[k] : NONE;
    }

    public int cool(int child, int cell, int spread) {
        if (now.at(child) == null || !isCell(cell) || !isSpread(spread)) {
            return BAD;
        }
        trial.takeFrom(now);
        landing.throwAt(cell, spread);
        for (int heat = 0; heat <= MOST_HEAT; heat++) {
            trial.heat = heat;
            if (landing.countPickedBy(trial, child) == 0) {
                return heat;
            }
        }
        return NONE;
    }

    public int stood(int row, int i, int n, int child, int had) {
        Row r = rowAt(row);
        boolean asTold = n >= 0 && n <= MOST_THROWN && had >= 0 && had <= MOST_THROWN;
        if (r == null || !asTold || now.at(child) == null) {
            return BAD;
        }
        if (r.isMissing()) {
            return found(NULL);
        }
        if (!r.holds(i, n)) {
            return found(PLACE);
        }
        if (!landing.takeItems(r, i, n)) {
            return BAD;
        }
        landing.weigh(now, child, NOBODY, picks);
        return nothingFound(cellsWith(had));
    }

    public int image(int k) {
        Square image = imageAt(k);
        if (image == null) {
            return BAD;
        }
        if (!now.told) {
            return STATE;
        }
        image.takeFrom(now);
        return 1;
    }

    public int restore(int k) {
        Square image = imageAt(k);
        if (image == null) {
            return BAD;
        }
        if (!image.told) {
            return STATE;
        }
        now.takeFrom(image);
        acts.count = 0;
        return 1;
    }

    // ---- asked

    public int kind(int child) {
        Child c = now.at(child);
        return c == null ? BAD : c.kind;
    }

    public int as(int child, int kind) {
        Child c = now.at(child);
        if (c == null || kind < CHILD || kind > APRON) {
            return BAD;
        }
        return c.isOne(kind) ? nothingFound(child) : found(KIND);
    }

    public int ask(int child, int what) {
        Child c = now.at(child);
        if (c == null || !isEither(what)) {
            return BAD;
        }
        asks.traced = 0;
        return what == 0 ? asks.askSize(c) : asks.askMark(c);
    }

    public int trace(int i) {
        return asks.bodyAt(i);
    }

    public int count(int what) {
        switch (what) {
            case 0: return countRows();
            case 1: return now.children;
            case 2: return Integer.bitCount(now.drains);
            case 3: return now.heat;
            case 4: return acts.count;
            case 5: return now.allPennies();
            case 6: return tape.length;
            default: return BAD;
        }
    }

    public int status() {
        return finding;
    }

    // ---- what the calls share

    private static boolean isCell(int cell) {
        return cell >= 0 && cell < CELLS;
    }

    private static boolean isSpread(int spread) {
        return spread >= 0 && spread <= MOST_SPREAD;
    }

    private static boolean isEither(int what) {
        return what == 0 || what == 1;
    }

    private static int far(int a, int b) {
        return Math.abs(a % WIDTH - b % WIDTH) + Math.abs(a / WIDTH - b / WIDTH);
    }

    private int found(int number) {
        finding = number;
        return FINDINGS - number;
    }

    private int nothingFound(int answer) {
        finding = 0;
        return answer;
    }

    private Row rowAt(int row) {
        return row >= 0 && row < rows.length ? rows[row] : null;
    }

    private Square imageAt(int k) {
        return k >= 0 && k < images.length ? images[k] : null;
    }

    private int countRows() {
        int many = 0;
        for (int i = 0; i < rows.length; i++) {
            Row r = rowAt(i);
            if (r != null && !r.isMissing()) {
                many++;
            }
        }
        return many;
    }

    private int throwPennies(int n, int seed) {
        long x = seed;
        int picked = 0;
        for (int k = 0; k < n; k++) {
            x = x * 16807 % 2147483647;
            Child c = now.at(now.pickerAt(landing.landBy(x)));
            if (c != null) {
                c.pennies++;
                picked++;
            }
        }
        return picked;
    }

    private static int fractionPart(int above, int below, int what) {
        int divisor = commonDivisor(above, below);
        if (divisor == 0) {
            return 0;
        }
        return what == 0 ? above / divisor : below / divisor;
    }

    private static int commonDivisor(int a, int b) {
        int big = a;
        int small = b;
        // Numbers of 31 bits need fewer than 50 steps.
        for (int step = 0; step < 64 && small != 0; step++) {
            int rest = big % small;
            big = small;
            small = rest;
        }
        return big;
    }

    private int bestCell(Square s, int child) {
        landing.weigh(s, child, NOBODY, picks);
        return largest(picks);
    }

    /** The first place of the sets (bits) that have most in them. */
    private static int largest(int[] sets) {
        int best = 0;
        int most = -1;
        for (int i = 0; i < sets.length; i++) {
            int many = Integer.bitCount(sets[i]);
            if (many > most) {
                most = many;
                best = i;
            }
        }
        return best;
    }

    /** The cells of two, as one number: the first one's times CELLS, and the other one's. */
    private int bestPair() {
        int best = 0;
        int most = -1;
        for (int a = 0; a < picks.length; a++) {
            for (int b = 0; b < otherPicks.length; b++) {
                // What the two pick together is what one of them picks when the other one is away.
                int many = Integer.bitCount(picks[a] | otherPicks[b]);
                if (many > most) {
                    most = many;
                    best = a * CELLS + b;
                }
            }
        }
        return best;
    }

    private int settle() {
        for (int round = 1; round <= MOST_ROUNDS; round++) {
            boolean moved = false;
            for (int i = 0; i < MOST_CHILDREN; i++) {
                Child c = trial.at(i);
                int best = c == null ? BEYOND : bestCell(trial, i);
                if (c != null && c.cell != best) {
                    c.cell = best;
                    moved = true;
                }
            }
            if (!moved) {
                return round;
            }
        }
        return NONE;
    }

    /** Tells for each cell which children (bits) have a mean above 0 of a penny that is aimed at it. */
    private void tellPleased(int spread) {
        for (int cell = 0; cell < pleased.length; cell++) {
            landing.throwAt(cell, spread);
            pleased[cell] = landing.pickers(now);
        }
    }

    /** Chooses the fewest cells so that each child is pleased by one of them at least: how many. */
    private int fewestThrows(int all) {
        if (all == 0) {
            return 0;
        }
        if (chooseOne(0, 0, 0, all)) {
            return 1;
        }
        if (chooseTwo(0, 0, 0, all)) {
            return 2;
        }
        return chooseThree(all) ? 3 : NONE;
    }

    /** Chooses the cell of a place, from one on, so that all are pleased; some are already. */
    private boolean chooseOne(int place, int from, int already, int all) {
        for (int cell = Math.max(from, 0); cell < pleased.length; cell++) {
            if ((already | pleased[cell]) == all) {
                choose(place, cell);
                return true;
            }
        }
        return false;
    }

    private boolean chooseTwo(int place, int from, int already, int all) {
        for (int cell = Math.max(from, 0); cell < pleased.length; cell++) {
            if (chooseOne(place + 1, cell + 1, already | pleased[cell], all)) {
                choose(place, cell);
                return true;
            }
        }
        return false;
    }

    private boolean chooseThree(int all) {
        for (int cell = 0; cell < pleased.length; cell++) {
            if (chooseTwo(1, cell + 1, pleased[cell], all)) {
                choose(0, cell);
                return true;
            }
        }
        return false;
    }

    private void choose(int place, int cell) {
        if (place >= 0 && place < chosen.length) {
            chosen[place] = cell;
        }
    }

    private int cellsWith(int had) {
        int cells = 0;
        for (int cell = 0; cell < picks.length; cell++) {
            if (Integer.bitCount(picks[cell]) == had) {
                cells |= 1 << cell;
            }
        }
        return cells;
    }

    /** A row; a missing one is kept, so that no call has to make another. */
    private static final class Row {
        private final int[] items = new int[MOST_ITEMS];
        private int lane;
        private int size = MISSING;

        private boolean isMissing() {
            return size == MISSING;
        }

        private void begin(int newLane, int n) {
            lane = newLane;
            size = n;
            Arrays.fill(items, 0);
        }

        private boolean holds(int i, int n) {
            return i >= 0 && n >= 0 && i <= size - n;
        }

        private int put(int i, int v) {
            int item = lane == BYTES ? (byte) v : lane == SHORTS ? (short) v : v;
            if (i >= 0 && i < items.length) {
                items[i] = item;
            }
            return item;
        }

        private int item(int i) {
            return i >= 0 && i < items.length ? items[i] : 0;
        }
    }

    /** A child; its number is its place in the square for good. */
    private static final class Child {
        private final int number;
        private int kind;
        private int strength;
        private int cell;
        private int pennies;

        private Child(int number) {
            this.number = number;
        }

        private void takeFrom(Child other) {
            kind = other.kind;
            strength = other.strength;
            cell = other.cell;
            pennies = other.pennies;
        }

        private int might() {
            return kind == BIG ? 2 * strength : strength;
        }

        private boolean isOne(int ofKind) {
            switch (ofKind) {
                case CHILD: return true;
                case SMALL: return kind == SMALL || kind == BIG || kind == SHY;
                case GLOVE: return kind == GLOVE || kind == APRON;
                default: return kind == ofKind;
            }
        }

        /** POWER at a cell as far from him as d. */
        private int powerBy(int d, int heat) {
            switch (kind) {
                case APRON: return Math.max(strength * (3 - d), 0);
                case GLOVE: return Math.max(strength * (2 - d), 0);
                case SHY: return d == 0 ? Math.max(strength * 2 - heat, 0) : 0;
                default: return Math.max(might() * (2 - d) - heat, 0);
            }
        }
    }

    /** A square as it is told, was, or might be. */
    private static final class Square {
        private final Child[] all = new Child[MOST_CHILDREN];
        private boolean told;
        private int heat;
        private int drains;
        private int children;

        private Square() {
            for (int i = 0; i < all.length; i++) {
                all[i] = new Child(i);
            }
        }

        private void clear() {
            told = false;
            heat = 0;
            drains = 0;
            children = 0;
        }

        private void takeFrom(Square other) {
            told = other.told;
            heat = other.heat;
            drains = other.drains;
            children = other.children;
            for (int i = 0; i < MOST_CHILDREN; i++) {
                Child mine = at(i);
                Child his = other.at(i);
                if (mine != null && his != null) {
                    mine.takeFrom(his);
                }
            }
        }

        /** The child of a number; null: there is no such one. */
        private Child at(int number) {
            return number >= 0 && number < children && number < all.length ? all[number] : null;
        }

        private void addChild(int kind, int cell, int strength) {
            children++;
            Child c = at(children - 1);
            if (c != null) {
                c.kind = kind;
                c.cell = cell;
                c.strength = strength;
                c.pennies = 0;
            }
        }

        private boolean isDry(int cell) {
            return isCell(cell) && (drains >> cell & 1) == 0;
        }

        private int mostPennies() {
            int most = 0;
            for (int i = 0; i < MOST_CHILDREN; i++) {
                Child c = at(i);
                most = c == null ? most : Math.max(most, c.pennies);
            }
            return most;
        }

        private int allPennies() {
            int sum = 0;
            for (int i = 0; i < MOST_CHILDREN; i++) {
                Child c = at(i);
                sum += c == null ? 0 : c.pennies;
            }
            return sum;
        }

        /** Who picks what lands in a cell. */
        private int pickerAt(int cell) {
            int picker = NOBODY;
            int most = 0;
            for (int i = 0; i < MOST_CHILDREN && isDry(cell); i++) {
                Child c = at(i);
                int power = c == null ? 0 : c.powerBy(far(c.cell, cell), heat);
                if (power > most) {
                    most = power;
                    picker = i;
                }
            }
            return picker;
        }

        /** The least power by which a child picks what lands in a cell, if another one were away. */
        private int powerNeeded(int child, int away, int cell) {
            if (!isDry(cell)) {
                return NEVER;
            }
            int least = 1;
            for (int i = 0; i < MOST_CHILDREN; i++) {
                Child c = at(i);
                if (c != null && i != child && i != away) {
                    // Of several the first picks: only a later child may be matched.
                    int more = i < child ? 1 : 0;
                    least = Math.max(least, c.powerBy(far(c.cell, cell), heat) + more);
                }
            }
            return least;
        }
    }

    /** Acts that can be undone: the square as it was ahead of each, the oldest first. */
    private static final class Acts {
        private final Square[] kept = new Square[MOST_ACTS];
        private int count;

        private Acts() {
            for (int i = 0; i < kept.length; i++) {
                kept[i] = new Square();
            }
        }

        private void keep(Square s) {
            if (count >= kept.length) {
                forgetOldest();
            }
            Square ahead = at(count);
            if (ahead != null) {
                ahead.takeFrom(s);
                count++;
            }
        }

        /** Brings the oldest behind all others, to be used again. */
        private void forgetOldest() {
            for (int i = 1; i < kept.length; i++) {
                Square later = kept[i];
                kept[i] = kept[i - 1];
                kept[i - 1] = later;
            }
            count--;
        }

        private boolean takeBack(Square s) {
            Square ahead = at(count - 1);
            if (ahead == null) {
                return false;
            }
            s.takeFrom(ahead);
            count--;
            return true;
        }

        private Square at(int i) {
            return i >= 0 && i < kept.length ? kept[i] : null;
        }
    }

    /** Where pennies land: a cell, or BEYOND, for each way that one can fly or for each of some pennies. */
    private static final class Landing {
        private final int[] cells = new int[MOST_THROWN];
        private int count;

        private void add(int cell) {
            if (count >= 0 && count < cells.length) {
                cells[count] = cell;
                count++;
            }
        }

        private int landAt(int way) {
            return way >= 0 && way < count && way < cells.length ? cells[way] : BEYOND;
        }

        private int landBy(long x) {
            return count > 0 ? landAt((int) (x % count)) : BEYOND;
        }

        private void throwAt(int cell, int spread) {
            count = 0;
            for (int dy = -MOST_SPREAD; dy <= MOST_SPREAD; dy++) {
                for (int dx = -MOST_SPREAD; dx <= MOST_SPREAD; dx++) {
                    int ways = Math.min(spread, MOST_SPREAD) + 1 - Math.abs(dx) - Math.abs(dy);
                    for (int way = 0; way < ways; way++) {
                        add(cellAt(cell % WIDTH + dx, cell / WIDTH + dy));
                    }
                }
            }
        }

        private static int cellAt(int x, int y) {
            return x >= 0 && x < WIDTH && y >= 0 && y < HEIGHT ? WIDTH * y + x : BEYOND;
        }

        /** Takes the items of a row; false: one of them is no cell. */
        private boolean takeItems(Row r, int from, int n) {
            count = 0;
            for (int k = 0; k < n && k < cells.length; k++) {
                int cell = r.item(from + k);
                if (!isCell(cell)) {
                    return false;
                }
                add(cell);
            }
            return true;
        }

        private int countPickedBy(Square s, int child) {
            int many = 0;
            for (int way = 0; way < count; way++) {
                if (s.pickerAt(landAt(way)) == child) {
                    many++;
                }
            }
            return many;
        }

        /** The children (bits) who pick by one of these at least. */
        private int pickers(Square s) {
            int who = 0;
            for (int way = 0; way < count; way++) {
                int picker = s.pickerAt(landAt(way));
                if (picker != NOBODY) {
                    who |= 1 << picker;
                }
            }
            return who;
        }

        /** Tells for each cell by which of these (bits) a child picks if he stands there and another one is away. */
        private void weigh(Square s, int child, int away, int[] told) {
            Arrays.fill(told, 0);
            Child c = s.at(child);
            for (int way = 0; way < count && c != null; way++) {
                int land = landAt(way);
                int needed = s.powerNeeded(child, away, land);
                for (int cell = 0; cell < told.length && needed < NEVER; cell++) {
                    if (c.powerBy(far(cell, land), s.heat) >= needed) {
                        told[cell] |= 1 << way;
                    }
                }
            }
        }
    }

    /** The tape, and the text on it read token by token. */
    private static final class Tape {
        private static final int MOST_BYTES = 300, MOST_FIGURES = 3;
        private static final int END = 0, NAME = 1, NUMBER = 2, SIGN = 3, OTHER = 4;
        private static final int CANNOT_STAND = 1, NOT_AS_TOLD = 2, NO_ROOM = 3;

        private final int[] bytes = new int[MOST_BYTES];
        private int length;
        private int start;
        private int next;
        private int token;
        private int value;
        private int fault;

        private boolean hasRoomFor(int n) {
            return length + n <= bytes.length;
        }

        private void add(int b) {
            if (length >= 0 && length < bytes.length) {
                bytes[length] = b;
                length++;
            }
        }

        /** Reads a square; false: there is a fault, in the token that starts at start. */
        private boolean read(Square s) {
            next = 0;
            step();
            if (!readLaw(s)) {
                return false;
            }
            for (int told = 0; isName("drain"); told++) {
                if (told >= MOST_DRAINS) {
                    return refuse(NO_ROOM);
                }
                if (!readDrain(s)) {
                    return false;
                }
            }
            for (int told = 0; isName("child"); told++) {
                if (told >= MOST_CHILDREN) {
                    return refuse(NO_ROOM);
                }
                if (!readChild(s)) {
                    return false;
                }
            }
            return token == END || refuse(CANNOT_STAND);
        }

        private boolean readLaw(Square s) {
            if (!isName("law")) {
                return refuse(CANNOT_STAND);
            }
            step();
            if (!takeNumber(0, MOST_HEAT)) {
                return false;
            }
            s.heat = value;
            step();
            return takeEnd();
        }

        private boolean readDrain(Square s) {
            step();
            if (!takeCell()) {
                return false;
            }
            s.drains |= 1 << value;
            step();
            return takeEnd();
        }

        private boolean readChild(Square s) {
            step();
            int kind = kindNamed();
            if (kind == NONE) {
                return refuse(CANNOT_STAND);
            }
            step();
            if (!takeCell()) {
                return false;
            }
            int cell = value;
            step();
            if (!takeNumber(1, MOST_STRENGTH)) {
                return false;
            }
            s.addChild(kind, cell, value);
            step();
            return takeEnd();
        }

        private int kindNamed() {
            if (isName("small")) {
                return SMALL;
            }
            if (isName("big")) {
                return BIG;
            }
            if (isName("shy")) {
                return SHY;
            }
            if (isName("glove")) {
                return GLOVE;
            }
            return isName("apron") ? APRON : NONE;
        }

        /** Two numbers, x and y; value is the cell then, and the second one still the token. */
        private boolean takeCell() {
            if (!takeNumber(0, WIDTH - 1)) {
                return false;
            }
            int x = value;
            step();
            if (!takeNumber(0, HEIGHT - 1)) {
                return false;
            }
            value = WIDTH * value + x;
            return true;
        }

        private boolean takeNumber(int least, int most) {
            if (token != NUMBER) {
                return refuse(CANNOT_STAND);
            }
            return value >= least && value <= most || refuse(NOT_AS_TOLD);
        }

        private boolean takeEnd() {
            if (token != SIGN) {
                return refuse(CANNOT_STAND);
            }
            step();
            return true;
        }

        private boolean refuse(int number) {
            fault = number;
            return false;
        }

        private boolean isName(String name) {
            if (token != NAME || next - start != name.length()) {
                return false;
            }
            for (int i = 0; i < name.length(); i++) {
                if (byteAt(start + i) != name.charAt(i)) {
                    return false;
                }
            }
            return true;
        }

        /** Goes on to the next token, from start up to next. */
        private void step() {
            while (next < length && (byteAt(next) == 32 || byteAt(next) == 10)) {
                next++;
            }
            start = next;
            if (next >= length) {
                token = END;
            } else if (isLetter(byteAt(next))) {
                stepName();
            } else if (isFigure(byteAt(next))) {
                stepNumber();
            } else {
                token = byteAt(next) == ';' ? SIGN : OTHER;
                next++;
            }
        }

        private void stepName() {
            token = NAME;
            while (next < length && isLetter(byteAt(next))) {
                next++;
            }
        }

        private void stepNumber() {
            value = 0;
            while (next < length && isFigure(byteAt(next))) {
                value = value * 10 + byteAt(next) - '0';
                next++;
            }
            token = next - start <= MOST_FIGURES ? NUMBER : OTHER;
        }

        private int byteAt(int i) {
            return i >= 0 && i < length && i < bytes.length ? bytes[i] : 0;
        }

        private static boolean isLetter(int b) {
            return b >= 'a' && b <= 'z';
        }

        private static boolean isFigure(int b) {
            return b >= '0' && b <= '9';
        }
    }

    /**
     * The asks, and the trace of the bodies that begin.
     *
     * <p>A small one's size asks for a mark, a glove's mark for a size: each asks within its own
     * kinds only, so that no body can come back to itself. A body that another one goes on from has a
     * method; the others stand where they are chosen.
     */
    private static final class Asks {
        private final int[] bodies = new int[MOST_TRACE];
        private int traced;

        private void begin(int body) {
            if (traced >= 0 && traced < bodies.length) {
                bodies[traced] = body;
                traced++;
            }
        }

        private int bodyAt(int i) {
            return i >= 0 && i < traced && i < bodies.length ? bodies[i] : NONE;
        }

        private int askSize(Child c) {
            switch (c.kind) {
                case SMALL:
                case SHY:
                    return body11(c);
                case BIG:
                    begin(12);
                    return -body11(c);
                case GLOVE:
                case APRON:
                    return askGloveSize(c);
                default:
                    return body10(c);
            }
        }

        private int askGloveSize(Child c) {
            if (c.kind == APRON) {
                begin(14);
                return 2 * body13(c);
            }
            return body13(c);
        }

        private int askMark(Child c) {
            switch (c.kind) {
                case SMALL:
                case BIG:
                case SHY:
                    return askSmallMark(c);
                case GLOVE:
                case APRON:
                    begin(23);
                    return body20(c) - askGloveSize(c);
                default:
                    return body20(c);
            }
        }

        private int askSmallMark(Child c) {
            switch (c.kind) {
                case BIG:
                    begin(24);
                    return 2 * body21(c);
                case SHY:
                    begin(22);
                    return body21(c) - 1000;
                default:
                    return body21(c);
            }
        }

        private int body10(Child c) {
            begin(10);
            return c.strength;
        }

        private int body11(Child c) {
            begin(11);
            return body10(c) + askSmallMark(c);
        }

        private int body13(Child c) {
            begin(13);
            return body10(c) - 100;
        }

        private int body20(Child c) {
            begin(20);
            return c.number;
        }

        private int body21(Child c) {
            begin(21);
            return body20(c) + c.cell;
        }
    }
}
