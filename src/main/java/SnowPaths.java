import java.util.Arrays;

/**
 * A green of eight by eight cells under snow, the walkers who tread it, and what can be reckoned
 * from that. The document DOC.md says what each call answers.
 *
 * <p>Sets of cells are longs, one bit a cell. All rows are made in the constructor and used again,
 * so that no call makes an object.
 */
public final class SnowPaths {
    public static final int NONE = -1, BAD = -2, NOT = -3, FULL = -4;

    private static final int CELLS = 64;
    private static final int DEEPEST = 30;
    private static final int MOST_FALLING = 9;
    private static final int MOST_WALKERS = 8;
    private static final int MOST_IN_ORDERS = 5;
    private static final int MOST_GRIT = 8;
    private static final int SHEETS = 4;

    private static final int BYTES = 0, SHORTS = 1, INTS = 2;

    private static final int NULL = 1, INDEX = 2, CAST = 3, STORE = 4, SIZE = 5;

    private static final int LEAST_INT = 1 << 31;
    private static final long LEAST_LONG = 1L << 63;

    private final Green green = new Green();
    private final Ground ground = new Ground();
    private final Walkers walkers = new Walkers();
    private final Route route = new Route();
    private final Outing outing = new Outing(green, route);
    private final Orders tried = new Orders(green, walkers, route);
    private final Sheet[] sheets = new Sheet[SHEETS];
    private int finding = 0;
    private int bestFirst = NONE;
    private int bestFirstEffort = 0;
    private int bestYard = NONE;
    private int bestYardGain = 0;

    public SnowPaths() {
        for (int s = 0; s < SHEETS; s++) {
            sheets[s] = new Sheet();
        }
    }

    // ---- the green

    public int type(int b) {
        if (b < 0 || b > 255) {
            return BAD;
        }
        return green.append(b) ? green.length : FULL;
    }

    public int wipe() {
        int had = green.length;
        green.empty();
        return had;
    }

    public int fault() {
        return green.faultAt;
    }

    public int cell(int cell, int what) {
        if (!isCell(cell)) {
            return BAD;
        }
        switch (what) {
            case 0:
                return green.kindOf(cell);
            case 1:
                return ground.snow[cell];
            case 2:
                return ground.pressed[cell];
            case 3:
                return ground.ice[cell];
            case 4:
                return ground.passed[cell];
            default:
                return BAD;
        }
    }

    public int snows(int n) {
        return n < 0 || n > MOST_FALLING ? BAD : ground.addSnow(n, green.walls);
    }

    public int thaws(int n) {
        return n < 0 || n > MOST_FALLING ? BAD : ground.melt(n);
    }

    public int freezes() {
        return ground.freeze();
    }

    public int clear(int cell, int direction) {
        if (!isCell(cell) || direction < 0 || direction > 3) {
            return BAD;
        }
        int next = beside(cell, direction);
        if (next == NONE || has(green.walls, cell) || has(green.walls, next)) {
            return NOT;
        }
        return ground.shovel(cell, next);
    }

    public int read(int s) {
        if (!isSheet(s)) {
            return BAD;
        }
        if (sheets[s].isLost()) {
            return found(NULL);
        }
        return ground.setSnow(sheets[s]);
    }

    // ---- walkers

    public int walker(int from, int to) {
        if (!isCell(from) || !isCell(to)) {
            return BAD;
        }
        return walkers.join(from, to) ? walkers.number - 1 : FULL;
    }

    public int gone() {
        int were = walkers.number;
        walkers.number = 0;
        return were;
    }

    public int plan(int from, int to, int i) {
        if (!isCell(from) || !isCell(to) || i < NONE) {
            return BAD;
        }
        if (has(green.hidden, from)) {
            return NONE;
        }
        int cost = route.find(from, to, green.walls, ground.snow);
        if (i == NONE) {
            return cost;
        }
        return i < route.length ? route.way[i] : NONE;
    }

    public int walk(int walker) {
        if (!isWalker(walker)) {
            return BAD;
        }
        outing.begin(ground.snow);
        outing.go(walkers.from[walker], walkers.to[walker], green.hidden);
        ground.treadAs(outing);
        return outing.effort;
    }

    public int morning() {
        tryMorning(NONE, NONE);
        ground.treadAs(outing);
        return outing.effort;
    }

    // ---- what would be

    public int all(int what) {
        if (what < 0 || what > 3) {
            return BAD;
        }
        tryMorning(NONE, NONE);
        return told(what);
    }

    public int straight(int walker) {
        if (!isWalker(walker)) {
            return BAD;
        }
        return fewestSteps(walker);
    }

    public int longer() {
        outing.begin(ground.snow);
        int more = 0;
        for (int w = 0; w < walkers.number; w++) {
            int before = outing.steps;
            if (outing.go(walkers.from[w], walkers.to[w], green.hidden)) {
                more += outing.steps - before - fewestSteps(w);
            }
        }
        return more;
    }

    public int orders(int what) {
        if (what < 0 || what > 1) {
            return BAD;
        }
        if (walkers.number > MOST_IN_ORDERS) {
            return FULL;
        }
        tried.tryAll(ground.snow, null);
        return what == 0 ? tried.least : tried.most;
    }

    public int order(int i) {
        if (i < 0) {
            return BAD;
        }
        if (walkers.number > MOST_IN_ORDERS) {
            return FULL;
        }
        if (i >= walkers.number) {
            return BAD;
        }
        tried.tryAll(ground.snow, null);
        return tried.best[i];
    }

    public int first(int what) {
        if (what < 0 || what > 1) {
            return BAD;
        }
        if (walkers.number == 0) {
            return NOT;
        }
        seekFirst();
        return what == 0 ? bestFirst : bestFirstEffort;
    }

    public int yard(int what) {
        if (what < 0 || what > 1) {
            return BAD;
        }
        seekYard();
        return what == 0 ? bestYard : bestYardGain;
    }

    // ---- falls, pictures

    public long falls(int what) {
        return left(0, what);
    }

    public int grit(int k, int i) {
        if (k < 0 || k > MOST_GRIT || i < 0) {
            return BAD;
        }
        if (i >= k) {
            return NONE;
        }
        tryMorning(NONE, NONE);
        long taken = 0;
        int cell = NONE;
        for (int n = 0; n <= i; n++) {
            cell = mostSlippery(taken);
            if (cell == NONE) {
                return NONE;
            }
            taken |= bit(cell);
        }
        return cell;
    }

    public long left(int k, int what) {
        if (k < 0 || k > MOST_GRIT || what < 0 || what > 1) {
            return refusedLong(BAD);
        }
        tryMorning(NONE, NONE);
        return thirtieths(slipperinessLeft(k), what);
    }

    public int tower(int s, int what) {
        if (!isSheet(s) || what < 0 || what > 1) {
            return BAD;
        }
        if (sheets[s].isLost()) {
            return found(NULL);
        }
        if (walkers.number > MOST_IN_ORDERS) {
            return FULL;
        }
        tried.tryAll(ground.snow, sheets[s]);
        return what == 0 ? tried.alike : tried.firsts;
    }

    public int towerOrder(int s, int i) {
        if (!isSheet(s) || i < 0 || i >= walkers.number) {
            return BAD;
        }
        if (sheets[s].isLost()) {
            return found(NULL);
        }
        if (walkers.number > MOST_IN_ORDERS) {
            return FULL;
        }
        tried.tryAll(ground.snow, sheets[s]);
        return tried.alike == 0 ? NONE : tried.firstAlike[i];
    }

    public int hints(int s, int walker, int what) {
        if (!isSheet(s) || !isWalker(walker) || what < 0 || what > 1) {
            return BAD;
        }
        if (sheets[s].isLost()) {
            return found(NULL);
        }
        int number = 0;
        int earliest = NONE;
        for (int c = 0; c < CELLS; c++) {
            if (green.kindOf(c) == Green.OPEN && wouldShow(sheets[s], walker, c)) {
                number++;
                earliest = earliest == NONE ? c : earliest;
            }
        }
        return what == 0 ? number : earliest;
    }

    // ---- sheets

    public int sheet(int s, int form, int n) {
        if (!isSheet(s) || !isForm(form) || n > CELLS) {
            return BAD;
        }
        if (n < 0) {
            return found(SIZE);
        }
        sheets[s].renew(form, n);
        return n;
    }

    public int lose(int s) {
        if (!isSheet(s)) {
            return BAD;
        }
        if (sheets[s].isLost()) {
            return found(NULL);
        }
        int had = sheets[s].size;
        sheets[s].renew(NONE, 0);
        return had;
    }

    public int lay(int s, int form, int i, int v) {
        int refusal = refusedItem(s, form, i);
        if (refusal != 0) {
            return refusal;
        }
        sheets[s].put(i, v);
        return 1;
    }

    public int get(int s, int form, int i) {
        return refusedItem(s, form, i) != 0 ? LEAST_INT : sheets[s].items[i];
    }

    public int copy(int s, int i, int t, int j, int n) {
        if (!isSheet(s) || !isSheet(t)) {
            return BAD;
        }
        if (sheets[s].isLost() || sheets[t].isLost()) {
            return found(NULL);
        }
        if (sheets[s].form != sheets[t].form) {
            return found(STORE);
        }
        if (!sheets[s].holds(i, n) || !sheets[t].holds(j, n)) {
            return found(INDEX);
        }
        System.arraycopy(sheets[s].items, i, sheets[t].items, j, n);
        return 1;
    }

    public int write(int s) {
        if (!isSheet(s)) {
            return BAD;
        }
        if (sheets[s].isLost()) {
            return found(NULL);
        }
        tryMorning(NONE, NONE);
        for (int c = 0; c < sheets[s].size; c++) {
            sheets[s].put(c, outing.came[c]);
        }
        return sheets[s].size;
    }

    public int count(int what) {
        switch (what) {
            case 0:
                return green.length;
            case 1:
                return Long.bitCount(green.walls);
            case 2:
                return Long.bitCount(green.hidden);
            case 3:
                return sum(ground.snow);
            case 4:
                return sum(ground.pressed);
            case 5:
                return sum(ground.ice);
            case 6:
                return sum(ground.passed);
            case 7:
                return walkers.number;
            case 8:
                return finding;
            default:
                return BAD;
        }
    }

    public long digest() {
        long h = 17;
        for (int what = 0; what <= 7; what++) {
            h = 31 * h + count(what);
        }
        h = 31 * h + fault();
        for (int c = 0; c < CELLS; c++) {
            for (int what = 0; what <= 4; what++) {
                h = 31 * h + cell(c, what);
            }
        }
        for (int w = 0; w < walkers.number; w++) {
            h = 31 * h + straight(w);
            h = 31 * h + plan(walkers.from[w], walkers.to[w], NONE);
        }
        tryMorning(NONE, NONE);
        for (int what = 0; what <= 3; what++) {
            h = 31 * h + told(what);
        }
        h = 31 * h + longer();
        h = 31 * h + first(0);
        h = 31 * h + first(1);
        seekYard();
        h = 31 * h + bestYard;
        h = 31 * h + bestYardGain;
        h = 31 * h + falls(0);
        h = 31 * h + falls(1);
        h = 31 * h + left(2, 0);
        h = 31 * h + left(2, 1);
        return h;
    }

    // ---- trying

    /** A MORNING with one WALKER ahead of the others (NONE) and one CELL laid bare (NONE). */
    private void tryMorning(int ahead, int bare) {
        outing.begin(ground.snow);
        if (isCell(bare)) {
            outing.snow[bare] = 0;
        }
        if (isWalker(ahead)) {
            outing.go(walkers.from[ahead], walkers.to[ahead], green.hidden);
        }
        for (int w = 0; w < walkers.number; w++) {
            if (w != ahead) {
                outing.go(walkers.from[w], walkers.to[w], green.hidden);
            }
        }
    }

    /** What a tried MORNING comes to, numbered as all() numbers it. */
    private int told(int what) {
        switch (what) {
            case 0:
                return outing.effort;
            case 1:
                return outing.steps;
            case 2:
                return outing.cellsPassed();
            default:
                return outing.stopped;
        }
    }

    private int fewestSteps(int walker) {
        long closed = green.walls | green.hidden;
        return route.find(walkers.from[walker], walkers.to[walker], closed, ground.bare);
    }

    private void seekFirst() {
        bestFirst = NONE;
        bestFirstEffort = 0;
        for (int w = 0; w < walkers.number; w++) {
            tryMorning(w, NONE);
            if (bestFirst == NONE || outing.effort < bestFirstEffort) {
                bestFirst = w;
                bestFirstEffort = outing.effort;
            }
        }
    }

    private void seekYard() {
        bestYard = NONE;
        bestYardGain = 0;
        tryMorning(NONE, NONE);
        int asItIs = outing.effort;
        for (int c = 0; c < CELLS; c++) {
            if (has(green.walls, c) || ground.snow[c] == 0) {
                continue;
            }
            tryMorning(NONE, c);
            if (asItIs - outing.effort > bestYardGain) {
                bestYard = c;
                bestYardGain = asItIs - outing.effort;
            }
        }
    }

    private boolean wouldShow(Sheet picture, int walker, int alsoHidden) {
        outing.begin(ground.snow);
        long hidden = green.hidden | bit(alsoHidden);
        outing.go(walkers.from[walker], walkers.to[walker], hidden);
        return picture.shows(outing.came);
    }

    /** ICE times how often the CELL was come onto in the tried MORNING: thirtieths of a fall. */
    private int slipperiness(int cell) {
        return ground.ice[cell] * outing.came[cell];
    }

    private int mostSlippery(long taken) {
        int cell = NONE;
        int most = 0;
        for (int c = 0; c < CELLS; c++) {
            if (!has(taken, c) && slipperiness(c) > most) {
                cell = c;
                most = slipperiness(c);
            }
        }
        return cell;
    }

    private int slipperinessLeft(int k) {
        int total = 0;
        for (int c = 0; c < CELLS; c++) {
            total += slipperiness(c);
        }
        long taken = 0;
        for (int n = 0; n < k; n++) {
            int cell = mostSlippery(taken);
            if (cell == NONE) {
                break;
            }
            taken |= bit(cell);
            total -= slipperiness(cell);
        }
        return total;
    }

    /** Above (0) or below (1) of a number of thirtieths in lowest terms. */
    private static long thirtieths(int number, int what) {
        int common = DEEPEST;
        while (common > 1 && (DEEPEST % common != 0 || number % common != 0)) {
            common--;
        }
        return what == 0 ? number / common : DEEPEST / common;
    }

    // ---- refusing

    private int found(int number) {
        finding = number;
        return -10 - number;
    }

    private static long refusedLong(int refusal) {
        return LEAST_LONG - refusal;
    }

    /** Why item i of a SHEET can't be had as of a FORM; 0: it can. */
    private int refusedItem(int s, int form, int i) {
        if (!isSheet(s) || !isForm(form)) {
            return BAD;
        }
        if (sheets[s].isLost()) {
            return found(NULL);
        }
        if (sheets[s].form != form) {
            return found(CAST);
        }
        return sheets[s].holds(i, 1) ? 0 : found(INDEX);
    }

    private static boolean isCell(int cell) {
        return cell >= 0 && cell < CELLS;
    }

    private boolean isWalker(int walker) {
        return walker >= 0 && walker < walkers.number;
    }

    private static boolean isSheet(int s) {
        return s >= 0 && s < SHEETS;
    }

    private static boolean isForm(int form) {
        return form >= BYTES && form <= INTS;
    }

    // ---- cells and sets of them

    private static long bit(int cell) {
        return 1L << cell;
    }

    private static boolean has(long set, int cell) {
        return ((set >>> cell) & 1) != 0;
    }

    /** The CELL next to one in a DIRECTION; NONE beyond the edge. */
    private static int beside(int cell, int direction) {
        int column = cell & 7;
        switch (direction) {
            case 0:
                return cell >= 8 ? cell - 8 : NONE;
            case 1:
                return column < 7 ? cell + 1 : NONE;
            case 2:
                return cell < CELLS - 8 ? cell + 8 : NONE;
            case 3:
                return column > 0 ? cell - 1 : NONE;
            default:
                return NONE;
        }
    }

    private static int sum(int[] row) {
        int total = 0;
        for (int each : row) {
            total += each;
        }
        return total;
    }

    /** THE GREEN's text and what it says of the CELLS. */
    private static final class Green {
        private static final int MOST_BYTES = 75;
        private static final int WHOLE = 71;
        private static final int OPEN = 0, WALL = 1, HIDDEN = 2;

        private final int[] text = new int[MOST_BYTES];
        private int length = 0;
        private int faultAt = 0;
        private long walls = 0;
        private long hidden = 0;

        private boolean append(int b) {
            if (length >= MOST_BYTES) {
                return false;
            }
            text[length] = b;
            length++;
            parse();
            return true;
        }

        private void empty() {
            length = 0;
            parse();
        }

        private int kindOf(int cell) {
            return has(walls, cell) ? WALL : has(hidden, cell) ? HIDDEN : OPEN;
        }

        private void parse() {
            walls = 0;
            hidden = 0;
            faultAt = seekFault();
            if (faultAt != NONE) {
                return;
            }
            for (int c = 0; c < CELLS; c++) {
                int sign = text[c + c / 8];
                if (sign == '#') {
                    walls |= bit(c);
                } else if (sign == 'o') {
                    hidden |= bit(c);
                }
            }
        }

        private int seekFault() {
            for (int place = 0; place < WHOLE; place++) {
                if (place >= length || !fits(place, text[place])) {
                    return place;
                }
            }
            return length > WHOLE ? WHOLE : NONE;
        }

        private static boolean fits(int place, int sign) {
            if (place % 9 == 8) {
                return sign == ';';
            }
            return sign == '.' || sign == '#' || sign == 'o';
        }
    }

    /** What lies on the CELLS, and how often they were PASSED. */
    private static final class Ground {
        private final int[] snow = new int[CELLS];
        private final int[] pressed = new int[CELLS];
        private final int[] ice = new int[CELLS];
        private final int[] passed = new int[CELLS];
        /** No SNOW anywhere, for ways that are counted in CELLS alone; never changed. */
        private final int[] bare = new int[CELLS];

        private int addSnow(int n, long walls) {
            int more = 0;
            for (int c = 0; c < CELLS; c++) {
                int deep = has(walls, c) ? snow[c] : Math.min(DEEPEST, snow[c] + n);
                if (deep > snow[c]) {
                    more++;
                }
                snow[c] = deep;
            }
            return more;
        }

        private int melt(int n) {
            int less = 0;
            for (int c = 0; c < CELLS; c++) {
                if (n > 0 && (snow[c] > 0 || pressed[c] > 0 || ice[c] > 0)) {
                    less++;
                }
                snow[c] = Math.max(0, snow[c] - n);
                pressed[c] = Math.max(0, pressed[c] - n);
                ice[c] = Math.max(0, ice[c] - n);
            }
            return less;
        }

        private int freeze() {
            int icy = 0;
            for (int c = 0; c < CELLS; c++) {
                ice[c] = pressed[c];
                if (ice[c] > 0) {
                    icy++;
                }
            }
            return icy;
        }

        private int shovel(int cell, int next) {
            int thrown = snow[cell] + pressed[cell];
            snow[cell] = 0;
            pressed[cell] = 0;
            snow[next] = Math.min(DEEPEST, snow[next] + thrown);
            return thrown;
        }

        private int setSnow(Sheet sheet) {
            for (int c = 0; c < sheet.size; c++) {
                if (sheet.items[c] < 0 || sheet.items[c] > DEEPEST) {
                    return c;
                }
                snow[c] = sheet.items[c];
            }
            return sheet.size;
        }

        /** Takes over what was trodden: each SNOW that went became PRESSED. */
        private void treadAs(Outing outing) {
            for (int c = 0; c < CELLS; c++) {
                pressed[c] = Math.min(DEEPEST, pressed[c] + snow[c] - outing.snow[c]);
                snow[c] = outing.snow[c];
                passed[c] += outing.came[c];
            }
        }
    }

    /** Who goes from where to where. */
    private static final class Walkers {
        private final int[] from = new int[MOST_WALKERS];
        private final int[] to = new int[MOST_WALKERS];
        private int number = 0;

        private boolean join(int start, int end) {
            if (number >= MOST_WALKERS) {
                return false;
            }
            from[number] = start;
            to[number] = end;
            number++;
            return true;
        }
    }

    /** The way that costs least from a CELL to a CELL. */
    private static final class Route {
        /** More than a CELL can cost, so that costs still ahead never share a place in the ring. */
        private static final int RING = 32;
        private static final int FARTHEST = CELLS * (DEEPEST + 1);
        private static final long FIRST_COLUMN = 0x0101010101010101L;

        private final int[] far = new int[CELLS];
        private final long[] ahead = new long[RING];
        private final int[] way = new int[CELLS];
        private int length = 0;
        private long reached = 0;

        /** What the way costs, with its CELLS in way[]; NONE. */
        private int find(int from, int to, long closed, int[] snow) {
            length = 0;
            if (has(closed, from) || has(closed, to)) {
                return NONE;
            }
            spread(from, to, closed, snow);
            if (!has(reached, from)) {
                return NONE;
            }
            int at = from;
            for (int n = 0; n < CELLS && at != to; n++) {
                at = onward(at, snow);
                if (at == NONE) {
                    return NONE;
                }
                way[n] = at;
                length = n + 1;
            }
            return far[from];
        }

        /** Goes back from the end, cost by cost, so that the start can then choose by DIRECTION. */
        private void spread(int from, int to, long closed, int[] snow) {
            Arrays.fill(ahead, 0L);
            ahead[0] = bit(to);
            reached = 0;
            int last = 0;
            for (int cost = 0; cost <= last && cost <= FARTHEST && !has(reached, from); cost++) {
                long now = ahead[cost & (RING - 1)] & ~reached;
                ahead[cost & (RING - 1)] = 0;
                reached |= now;
                for (int n = 0; n < CELLS && now != 0; n++) {
                    // The lowest bit, less one, has as many bits as its CELL's number.
                    int cell = Long.bitCount((now & -now) - 1);
                    now &= now - 1;
                    far[cell] = cost;
                    int then = cost + 1 + snow[cell];
                    ahead[then & (RING - 1)] |= around(bit(cell)) & ~closed;
                    last = Math.max(last, then);
                }
            }
        }

        private int onward(int at, int[] snow) {
            for (int direction = 0; direction < 4; direction++) {
                int next = beside(at, direction);
                if (next != NONE && has(reached, next) && far[next] + 1 + snow[next] == far[at]) {
                    return next;
                }
            }
            return NONE;
        }

        private static long around(long set) {
            long east = (set << 1) & ~FIRST_COLUMN;
            long west = (set & ~FIRST_COLUMN) >>> 1;
            return (set >>> 8) | east | (set << 8) | west;
        }
    }

    /** WALKS tried one behind the other on SNOW of their own. */
    private static final class Outing {
        private final Green green;
        private final Route route;
        private final int[] snow = new int[CELLS];
        private final int[] came = new int[CELLS];
        private int effort = 0;
        private int steps = 0;
        private int stopped = 0;
        private int met = NONE;

        private Outing(Green green, Route route) {
            this.green = green;
            this.route = route;
        }

        private void begin(int[] from) {
            System.arraycopy(from, 0, snow, 0, CELLS);
            Arrays.fill(came, 0);
            effort = 0;
            steps = 0;
            stopped = 0;
        }

        private void beginAs(Outing other) {
            System.arraycopy(other.snow, 0, snow, 0, CELLS);
            System.arraycopy(other.came, 0, came, 0, CELLS);
            effort = other.effort;
            steps = other.steps;
            stopped = other.stopped;
        }

        /** One WALK; whether it gets there. */
        private boolean go(int from, int to, long hidden) {
            int at = from;
            // From a HIDDEN cell there is no PLAN: known, it shuts the start.
            long known = hidden & bit(from);
            // Each time round one more HIDDEN cell is known, and there are no more than CELLS.
            for (int times = 0; times <= CELLS; times++) {
                if (route.find(at, to, green.walls | known, snow) == NONE) {
                    break;
                }
                at = follow(at, hidden);
                if (met == NONE) {
                    return true;
                }
                known |= bit(met);
            }
            stopped++;
            return false;
        }

        /** Goes by the route until one stands before a HIDDEN cell, which is met then. */
        private int follow(int from, long hidden) {
            int at = from;
            met = NONE;
            for (int n = 0; n < route.length; n++) {
                int next = route.way[n];
                if (has(hidden, next)) {
                    met = next;
                    return at;
                }
                tread(next);
                at = next;
            }
            return at;
        }

        private void tread(int cell) {
            effort += 1 + snow[cell];
            steps++;
            came[cell]++;
            if (snow[cell] > 0) {
                snow[cell]--;
            }
        }

        private int cellsPassed() {
            int number = 0;
            for (int times : came) {
                if (times > 0) {
                    number++;
                }
            }
            return number;
        }
    }

    /** MORNINGS in all orders of up to five WALKERS. */
    private static final class Orders {
        private static final int MOST_ORDERS = 120;

        private final Green green;
        private final Walkers walkers;
        /** Stage n: the first n of the order have gone. Orders with a like beginning share it. */
        private final Outing[] stages = new Outing[MOST_IN_ORDERS + 1];
        private final int[] row = new int[MOST_IN_ORDERS];
        private final int[] best = new int[MOST_IN_ORDERS];
        private final int[] firstAlike = new int[MOST_IN_ORDERS];
        private int least = 0;
        private int most = 0;
        private int alike = 0;
        private int firsts = 0;

        private Orders(Green green, Walkers walkers, Route route) {
            this.green = green;
            this.walkers = walkers;
            for (int n = 0; n <= MOST_IN_ORDERS; n++) {
                stages[n] = new Outing(green, route);
            }
        }

        /** Orders come least row first, so that of like ones the first is kept. */
        private void tryAll(int[] snow, Sheet picture) {
            int number = Math.min(walkers.number, MOST_IN_ORDERS);
            for (int n = 0; n < number; n++) {
                row[n] = n;
            }
            alike = 0;
            firsts = 0;
            stages[0].begin(snow);
            int changed = 0;
            for (int n = 0; n < MOST_ORDERS && changed != NONE; n++) {
                sendFrom(changed, number);
                weigh(stages[number].effort, n == 0);
                if (picture != null && picture.shows(stages[number].came)) {
                    keepAlike(number);
                }
                changed = advance(number);
            }
        }

        private void sendFrom(int place, int number) {
            for (int n = place; n < number; n++) {
                stages[n + 1].beginAs(stages[n]);
                stages[n + 1].go(walkers.from[row[n]], walkers.to[row[n]], green.hidden);
            }
        }

        private void weigh(int effort, boolean earliest) {
            if (earliest || effort < least) {
                least = effort;
                System.arraycopy(row, 0, best, 0, MOST_IN_ORDERS);
            }
            if (earliest || effort > most) {
                most = effort;
            }
        }

        private void keepAlike(int number) {
            if (alike == 0) {
                System.arraycopy(row, 0, firstAlike, 0, MOST_IN_ORDERS);
            }
            alike++;
            if (number > 0) {
                firsts |= 1 << row[0];
            }
        }

        /** The next row in their order: the first place that changed, NONE behind the last row. */
        private int advance(int number) {
            int place = number - 2;
            while (place >= 0 && row[place] > row[place + 1]) {
                place--;
            }
            if (place < 0) {
                return NONE;
            }
            int other = number - 1;
            while (other > place && row[other] < row[place]) {
                other--;
            }
            swap(place, other);
            for (int low = place + 1, high = number - 1; low < high; low++, high--) {
                swap(low, high);
            }
            return place;
        }

        private void swap(int a, int b) {
            int kept = row[a];
            row[a] = row[b];
            row[b] = kept;
        }
    }

    /** A row of a FORM; LOST while its form is NONE. */
    private static final class Sheet {
        private final int[] items = new int[CELLS];
        private int form = NONE;
        private int size = 0;

        private boolean isLost() {
            return form == NONE;
        }

        private void renew(int newForm, int newSize) {
            form = newForm;
            size = newSize;
            Arrays.fill(items, 0);
        }

        private void put(int i, int v) {
            switch (form) {
                case BYTES:
                    items[i] = (byte) v;
                    break;
                case SHORTS:
                    items[i] = (short) v;
                    break;
                default:
                    items[i] = v;
                    break;
            }
        }

        /** Whether there are n items from i on; the sum of both may not be taken: it can wrap. */
        private boolean holds(int i, int n) {
            return i >= 0 && n >= 0 && i <= size && n <= size - i;
        }

        private boolean shows(int[] times) {
            for (int c = 0; c < size; c++) {
                if (items[c] != times[c]) {
                    return false;
                }
            }
            return true;
        }
    }
}
