import java.util.Arrays;

/**
 * A shelf of places on curves. What each method must answer stands in DOC.md, promise by promise.
 *
 * <p>Every curve is read as a tree of boxes: each digit of a NUMBER, the highest first, cuts the box at
 * hand into two (or three) along one axis. {@link Curve} tells how, {@link Walk} goes through that tree.
 * What an act on a shelf makes is a new {@link Row}; a row that stands is never changed, so that acts
 * taken back and images only keep references to it.
 */
public final class CurveShelf {
    public static final int NONE = -1;

    private static final int REFUSED = -2;
    private static final int NAME_TAKEN = -5;
    private static final int FULL = -6;

    private static final int AXES = 3;
    private static final int MOST_CURVES = 8;
    private static final int MOST_BITS = 20;
    private static final int MOST_THIRDS = 12;
    private static final int MOST_DIGITS = AXES * MOST_BITS;
    private static final int MOST_STEPS = 300;

    private static final int ROWS = 0;
    private static final int TURNING = 2;
    private static final int SNAIL = 3;
    private static final int MIXED = 4;

    private static final int MOST_SHELVES = 4;
    private static final int MOST_POINTS = 300;
    private static final int MOST_NAME = 9999;
    private static final int MOST_WEIGHT = 1000;
    private static final int PAGE_FULL = 16;
    private static final int PART_STAYS = 9;
    private static final int MELT_MOST = 10;
    private static final int MOST_ACTS = 6;
    private static final int MOST_SOWN = 40;
    private static final int SOWN_WEIGHTS = 101;

    private static final int MOST_SPANS = 200;
    private static final int MOST_NEAREST = 20;
    private static final int MOST_SQUARE = 64;
    private static final int PAGE_BYTES = 9;

    private static final int RACK_PLACES = 8;
    private static final int SORT_POINT = 0;
    private static final int SORT_PAGE = 1;
    private static final int SORT_CURVE = 2;
    private static final int SORT_NOTHING = 3;
    private static final int ASK_SORT = 5;
    private static final int ASKED_OF_NOTHING = -3;
    private static final int ASKED_WRONGLY = -4;

    private static final int IMAGES = 2;

    private final State now = new State();
    private final State[] images = new State[IMAGES];
    private final byte[] outBytes = new byte[PAGE_BYTES * MOST_POINTS];
    private int outLength = 0;

    // Rows that a call fills anew each time; none of them is state.
    private final Walk walk = new Walk();
    private final Search search = new Search();
    private final Spans spareSpans = new Spans();
    private final Finds spareFinds = new Finds(MOST_NEAREST);
    private final boolean[] takenNames = new boolean[MOST_POINTS + 1];

    public CurveShelf() {
    }

    // ---- curves ----

    public int curve(int kind, int d, int a, int b, int c) {
        if (now.curveCount >= MOST_CURVES || !canBeCurve(kind, d, a, b, c)) {
            return NONE;
        }
        boolean eachItsOwn = kind == ROWS || kind == MIXED;
        int[] lengths = {a, eachItsOwn ? b : a, d < AXES ? 0 : eachItsOwn ? c : a};
        int index = now.curveCount;
        Curve made;
        if (kind == TURNING) {
            made = new Turning(index, d, lengths);
        } else if (kind == SNAIL) {
            made = new Snail(index, d, lengths);
        } else {
            made = new Curve(index, d, 2, lengths, kind == ROWS);
        }
        now.curves[index] = made;
        now.curveCount = index + 1;
        return index;
    }

    public long number(int curve, int x, int y, int z) {
        Curve c = curveAt(curve);
        return c == null || !c.holds(x, y, z) ? NONE : walk.numberOf(c, x, y, z);
    }

    public int place(int curve, long number, int axis) {
        Curve c = curveAt(curve);
        if (c == null || number < 0 || number >= c.total || axis < 0 || axis >= AXES) {
            return NONE;
        }
        walk.enter(c);
        walk.seek(number, true);
        return walk.leaf(axis);
    }

    public long size(int curve) {
        Curve c = curveAt(curve);
        return c == null ? 0 : c.total;
    }

    public int gap(int curve, long from, int n) {
        Curve c = curveAt(curve);
        if (c == null || n < 1 || n > MOST_STEPS || from < 0 || from > c.total - 1 - n) {
            return NONE;
        }
        walk.enter(c);
        walk.seek(from, true);
        int greatest = 0;
        for (int i = 0; i < n; i++) {
            int x = walk.leaf(0);
            int y = walk.leaf(1);
            int z = walk.leaf(2);
            walk.onward(true);
            int step = Math.abs(walk.leaf(0) - x) + Math.abs(walk.leaf(1) - y) + Math.abs(walk.leaf(2) - z);
            greatest = Math.max(greatest, step);
        }
        return greatest;
    }

    private static boolean canBeCurve(int kind, int d, int a, int b, int c) {
        if (kind < ROWS || kind > MIXED || d < 2 || d > AXES) {
            return false;
        }
        int most = kind == SNAIL ? MOST_THIRDS : MOST_BITS;
        if (a < 1 || a > most) {
            return false;
        }
        if (kind != ROWS && kind != MIXED) {
            return b == 0 && c == 0;
        }
        return b >= 1 && b <= most && (d == 2 ? c == 0 : c >= 1 && c <= most);
    }

    private Curve curveAt(int i) {
        return i < 0 || i >= now.curveCount ? null : now.curves[i];
    }

    // ---- shelves ----

    public boolean shelf(int shelf, int curve) {
        Curve c = curveAt(curve);
        if (c == null || shelf < 0 || shelf >= MOST_SHELVES) {
            return false;
        }
        now.shelves[shelf].begin(c);
        return true;
    }

    public int put(int shelf, int name, int x, int y, int z, int weight) {
        Shelf s = shelfAt(shelf);
        if (s == null) {
            return NONE;
        }
        if (name < 0 || name > MOST_NAME || weight < 0 || weight > MOST_WEIGHT || !s.curve.holds(x, y, z)) {
            return REFUSED;
        }
        if (s.row.indexOf(name) >= 0) {
            return NAME_TAKEN;
        }
        if (s.row.many >= MOST_POINTS) {
            return FULL;
        }
        Row next = new Row(s.row, 1);
        int k = next.come(new Point(name, walk.numberOf(s.curve, x, y, z), x, y, z, weight));
        s.act(next);
        return k;
    }

    public int drop(int shelf, int name) {
        Shelf s = shelfAt(shelf);
        int i = s == null ? NONE : s.row.indexOf(name);
        if (i < 0) {
            return NONE;
        }
        Row next = new Row(s.row, 0);
        next.go(i);
        s.act(next);
        return next.many;
    }

    public int move(int shelf, int name, int x, int y, int z) {
        Shelf s = shelfAt(shelf);
        int i = s == null ? NONE : s.row.indexOf(name);
        if (i < 0) {
            return NONE;
        }
        if (!s.curve.holds(x, y, z)) {
            return REFUSED;
        }
        int weight = s.row.points[i].weight;
        Row next = new Row(s.row, 1);
        next.go(i);
        int k = next.come(new Point(name, walk.numberOf(s.curve, x, y, z), x, y, z, weight));
        s.act(next);
        return k;
    }

    public int sow(int shelf, int n, int seed) {
        Shelf s = shelfAt(shelf);
        if (s == null) {
            return NONE;
        }
        if (n < 1 || n > MOST_SOWN) {
            return REFUSED;
        }
        if (s.row.many + n > MOST_POINTS) {
            return FULL;
        }
        Row next = new Row(s.row, n);
        next.markNames(takenNames);
        Curve c = s.curve;
        int g = seed;
        for (int i = 0; i < n; i++) {
            g = drawAfter(g);
            int x = drawn(g, c.room[0]);
            g = drawAfter(g);
            int y = drawn(g, c.room[1]);
            int z = 0;
            if (c.axes == AXES) {
                g = drawAfter(g);
                z = drawn(g, c.room[2]);
            }
            g = drawAfter(g);
            int weight = drawn(g, SOWN_WEIGHTS);
            next.come(new Point(takeFreeName(), walk.numberOf(c, x, y, z), x, y, z, weight));
        }
        s.act(next);
        return next.many;
    }

    public int find(int shelf, int name) {
        Shelf s = shelfAt(shelf);
        return s == null ? NONE : s.row.indexOf(name);
    }

    public int at(int shelf, int i, int what) {
        Shelf s = shelfAt(shelf);
        if (s == null || i < 0 || i >= s.row.many) {
            return NONE;
        }
        Point p = s.row.points[i];
        switch (what) {
            case 0: return p.name;
            case 1: return p.x;
            case 2: return p.y;
            case 3: return p.z;
            case 4: return p.weight;
            case 5: return s.row.pageOf(i);
            default: return NONE;
        }
    }

    public int count(int shelf, int what) {
        Shelf s = shelfAt(shelf);
        if (s == null) {
            return NONE;
        }
        switch (what) {
            case 0: return s.row.many;
            case 1: return s.row.pages;
            case 2: return s.row.weightsOf(0, s.row.many);
            case 3: return s.curve.index;
            case 4: return s.left;
            default: return NONE;
        }
    }

    public int page(int shelf, int k, int what) {
        Shelf s = shelfAt(shelf);
        if (s == null || k < 0 || k >= s.row.pages) {
            return NONE;
        }
        int first = s.row.startOf(k);
        int many = s.row.sizes[k];
        switch (what) {
            case 0: return many;
            case 1: return s.row.weightsOf(first, many);
            case 2:
            case 3:
            case 4: return s.row.leastOf(first, many, what - 2);
            case 5:
            case 6:
            case 7: return s.row.greatestOf(first, many, what - 5);
            case 8: return first;
            default: return NONE;
        }
    }

    public int undo(int shelf) {
        Shelf s = shelfAt(shelf);
        return s == null ? NONE : s.takeBack();
    }

    private Shelf shelfAt(int i) {
        if (i < 0 || i >= MOST_SHELVES || now.shelves[i].row == null) {
            return null;
        }
        return now.shelves[i];
    }

    private static int drawAfter(int g) {
        return 1103515245 * g + 12345;
    }

    private static int drawn(int g, int can) {
        return can < 1 ? 0 : (g >>> 8) % can;
    }

    // Among at most 300 names the least free one is never above 300.
    private int takeFreeName() {
        int name = 0;
        while (name < MOST_POINTS && takenNames[name]) {
            name++;
        }
        takenNames[name] = true;
        return name;
    }

    // ---- the window ----

    public void low(int x, int y, int z) {
        now.setCorner(0, x, y, z);
    }

    public void high(int x, int y, int z) {
        now.setCorner(AXES, x, y, z);
    }

    public int spans(int curve) {
        Curve c = curveAt(curve);
        if (!enterWindow(c)) {
            return NONE;
        }
        // Told spans stay when there are too many, so these are gathered aside.
        if (!gatherSpans(c)) {
            return REFUSED;
        }
        now.told.copyFrom(spareSpans);
        return now.told.many;
    }

    public long span(int i, int which) {
        if (i < 0 || i >= now.told.many || which < 0 || which > 1) {
            return NONE;
        }
        return which == 0 ? now.told.first[i] : now.told.last[i];
    }

    public int few(int n) {
        if (n < 1) {
            return NONE;
        }
        now.told.meltTo(n);
        return now.told.many;
    }

    public long beyond() {
        return now.told.numbers() - now.told.places;
    }

    public long jump(int curve, long from) {
        Curve c = curveAt(curve);
        if (!enterWindow(c) || from >= c.total - 1) {
            return NONE;
        }
        return walk.seek(Math.max(from, -1) + 1, true);
    }

    private boolean enterWindow(Curve c) {
        if (c == null) {
            return false;
        }
        int[] corners = now.corners;
        if (!c.holds(corners[0], corners[1], corners[2]) || !c.holds(corners[3], corners[4], corners[5])) {
            return false;
        }
        walk.enter(c);
        for (int axis = 0; axis < AXES; axis++) {
            if (corners[axis] > corners[axis + AXES]) {
                return false;
            }
            walk.narrow(axis, corners[axis], corners[axis + AXES]);
        }
        return true;
    }

    private boolean gatherSpans(Curve c) {
        spareSpans.begin(walk.windowPlaces());
        long first = walk.seek(0, true);
        for (int i = 0; i < MOST_SPANS; i++) {
            if (first < 0) {
                return true;
            }
            long out = walk.onward(false);
            if (out < 0) {
                spareSpans.append(first, c.total - 1);
                return true;
            }
            spareSpans.append(first, out - 1);
            first = walk.onward(true);
        }
        return first < 0;
    }

    // ---- finding points ----

    public int points(int shelf) {
        Shelf s = shelfAt(shelf);
        if (s == null || !enterWindow(s.curve)) {
            return NONE;
        }
        now.finds.begin();
        int first = 0;
        for (int k = 0; k < s.row.pages; k++) {
            int end = first + s.row.sizes[k];
            long inside = walk.seek(s.row.points[first].number, true);
            if (inside >= 0 && inside <= s.row.points[end - 1].number) {
                now.finds.reads++;
                appendInWindow(s.row, first, end);
            }
            first = end;
        }
        return now.finds.many;
    }

    public int nearest(int shelf, int x, int y, int z, int way, int n) {
        Row row = aimAt(shelf, x, y, z, way);
        if (row == null || n < 1 || n > MOST_NEAREST) {
            return NONE;
        }
        search.readNearest(row, n, now.finds);
        return now.finds.many;
    }

    public int within(int shelf, int x, int y, int z, int way, int distance) {
        Row row = aimAt(shelf, x, y, z, way);
        if (row == null || distance < 0) {
            return NONE;
        }
        search.readWithin(row, distance, now.finds);
        return now.finds.many;
    }

    public int pairs(int shelf, int way) {
        Shelf s = shelfAt(shelf);
        if (s == null || !isWay(way)) {
            return NONE;
        }
        search.readClosest(s.row, way, now.finds);
        return now.finds.many;
    }

    public long found(int i, int what) {
        if (i < 0 || i >= now.finds.many || what < 0 || what > 1) {
            return NONE;
        }
        return what == 0 ? now.finds.who[i].name : now.finds.far[i];
    }

    public int spent(int what) {
        switch (what) {
            case 0: return now.finds.many;
            case 1: return now.finds.weights();
            case 2: return now.finds.reads;
            default: return NONE;
        }
    }

    private void appendInWindow(Row row, int first, int end) {
        for (int i = first; i < end; i++) {
            Point p = row.points[i];
            if (walk.isInWindow(p)) {
                now.finds.append(p, 0);
            }
        }
    }

    private static boolean isWay(int way) {
        return way >= 0 && way <= 2;
    }

    // The shelf's row, with the search set on the place; null if there is no such shelf, place, way.
    private Row aimAt(int shelf, int x, int y, int z, int way) {
        Shelf s = shelfAt(shelf);
        if (s == null || !isWay(way) || !s.curve.holds(x, y, z)) {
            return null;
        }
        search.aim(x, y, z, way);
        return s.row;
    }

    // ---- means ----

    public long mean(int curve, int s, int w, int h, int what) {
        Curve c = curveAt(curve);
        if (!hasMean(c, s, w, h) || what < 0 || what > 3) {
            return NONE;
        }
        long windows = (long) (s - w + 1) * (s - h + 1);
        if (what == 0) {
            return windows;
        }
        long together = spansTogether(c, s, w, h);
        if (what == 1) {
            return together;
        }
        long divisor = greatestDivisor(together, windows);
        if (divisor < 1) {
            return NONE;
        }
        return what == 2 ? together / divisor : windows / divisor;
    }

    public int compare(int one, int other, int s, int w, int h) {
        Curve c = curveAt(one);
        Curve d = curveAt(other);
        if (!hasMean(c, s, w, h) || !hasMean(d, s, w, h)) {
            return REFUSED;
        }
        // Both means are over the same number of windows.
        return Long.compare(spansTogether(c, s, w, h), spansTogether(d, s, w, h));
    }

    private static boolean hasMean(Curve c, int s, int w, int h) {
        if (c == null || c.axes != 2 || s < 1 || s > MOST_SQUARE || s > c.room[0] || s > c.room[1]) {
            return false;
        }
        return w >= 1 && w <= s && h >= 1 && h <= s;
    }

    // A window has as many spans as places, less the steps of the curve that stay within it:
    // so one walk through the square is enough for all its windows.
    private long spansTogether(Curve c, int s, int w, int h) {
        walk.enter(c);
        walk.narrow(0, 0, s - 1);
        walk.narrow(1, 0, s - 1);
        long together = (long) (s - w + 1) * (s - h + 1) * w * h;
        long last = walk.seek(0, true);
        for (int i = 1; i < s * s; i++) {
            int x = walk.leaf(0);
            int y = walk.leaf(1);
            long next = walk.onward(true);
            if (next == last + 1) {
                together -= (long) windowsWithBoth(x, walk.leaf(0), s, w) * windowsWithBoth(y, walk.leaf(1), s, h);
            }
            last = next;
        }
        return together;
    }

    private static int windowsWithBoth(int a, int b, int s, int wide) {
        int least = Math.max(0, Math.max(a, b) - wide + 1);
        int most = Math.min(s - wide, Math.min(a, b));
        return Math.max(0, most - least + 1);
    }

    private static long greatestDivisor(long a, long b) {
        long one = a;
        long other = b;
        // Euclid's steps halve the numbers at least every second time: a hundred are more than enough.
        for (int i = 0; i < 100 && other > 0; i++) {
            long rest = one % other;
            one = other;
            other = rest;
        }
        return one;
    }

    // ---- witnesses ----

    public int witness(int shelf, int x, int y, int z, int way, int n) {
        Row row = aimAt(shelf, x, y, z, way);
        if (row == null || n < 1 || n > MOST_NEAREST) {
            return NONE;
        }
        search.readNearest(row, n, spareFinds);
        outLength = 0;
        for (int k = 0; k < row.pages; k++) {
            outBytes[outLength] = (byte) (search.isRead[k] ? 1 : 0);
            outLength++;
            for (int shift = 56; shift >= 0; shift -= 8) {
                outBytes[outLength] = (byte) (search.boxFar[k] >> shift);
                outLength++;
            }
        }
        return outLength;
    }

    public int out(int i) {
        return i < 0 || i >= outLength ? NONE : outBytes[i] & 255;
    }

    public int forge(int i, int v) {
        if (i < 0 || i >= outLength) {
            return NONE;
        }
        int was = outBytes[i] & 255;
        outBytes[i] = (byte) v;
        return was;
    }

    public int check(int shelf, int x, int y, int z, int way, int n) {
        Row row = aimAt(shelf, x, y, z, way);
        if (row == null || n < 1 || n > MOST_NEAREST || outLength != PAGE_BYTES * row.pages) {
            return REFUSED;
        }
        search.measure(row);
        int k = firstFalsePage(row.pages);
        return k != NONE ? k : firstMissedPage(row, n);
    }

    private int firstFalsePage(int pages) {
        for (int k = 0; k < pages; k++) {
            int mark = outBytes[k * PAGE_BYTES];
            if (mark != 0 && mark != 1 || tellsFar(k) != search.boxFar[k]) {
                return k;
            }
        }
        return NONE;
    }

    private long tellsFar(int k) {
        long far = 0;
        for (int i = 1; i < PAGE_BYTES; i++) {
            far = far << 8 | outBytes[k * PAGE_BYTES + i] & 255;
        }
        return far;
    }

    private int firstMissedPage(Row row, int n) {
        spareFinds.begin();
        for (int k = 0; k < row.pages; k++) {
            if (outBytes[k * PAGE_BYTES] == 1) {
                search.readPage(row, k, n, spareFinds);
            }
        }
        boolean enough = spareFinds.many >= n;
        for (int k = 0; k < row.pages; k++) {
            if (outBytes[k * PAGE_BYTES] == 0 && (!enough || search.boxFar[k] <= spareFinds.far[n - 1])) {
                return k;
            }
        }
        return NONE;
    }

    // ---- the rack ----

    public boolean lay(int k, int what, int shelf, int n) {
        if (k < 0 || k >= RACK_PLACES) {
            return false;
        }
        switch (what) {
            case SORT_POINT: return layPoint(k, shelfAt(shelf), n);
            case SORT_PAGE: return layPage(k, shelfAt(shelf), n);
            case SORT_CURVE: return layCurve(k, curveAt(n));
            case SORT_NOTHING: return now.layOnRack(k, SORT_NOTHING, 0, 0);
            default: return false;
        }
    }

    public long ask(int k, int as) {
        if (k < 0 || k >= RACK_PLACES || as < 0 || as > ASK_SORT) {
            return ASKED_WRONGLY;
        }
        int sort = now.rackSort[k];
        if (sort == SORT_NOTHING) {
            return ASKED_OF_NOTHING;
        }
        if (as == ASK_SORT) {
            return sort;
        }
        // Two asks belong to each sort: 0 and 1, 2 and 3, 4.
        if (as / 2 != sort) {
            return REFUSED;
        }
        return as % 2 == 0 ? now.rackFirst[k] : now.rackSecond[k];
    }

    private boolean layPoint(int k, Shelf s, int name) {
        int i = s == null ? NONE : s.row.indexOf(name);
        if (i < 0) {
            return false;
        }
        Point p = s.row.points[i];
        return now.layOnRack(k, SORT_POINT, p.number, p.weight);
    }

    private boolean layPage(int k, Shelf s, int n) {
        if (s == null || n < 0 || n >= s.row.pages) {
            return false;
        }
        int many = s.row.sizes[n];
        return now.layOnRack(k, SORT_PAGE, many, s.row.weightsOf(s.row.startOf(n), many));
    }

    private boolean layCurve(int k, Curve c) {
        return c != null && now.layOnRack(k, SORT_CURVE, c.total, 0);
    }

    // ---- images ----

    public boolean image(int place) {
        if (place < 0 || place >= IMAGES) {
            return false;
        }
        if (images[place] == null) {
            images[place] = new State();
        }
        images[place].copyFrom(now);
        return true;
    }

    public boolean back(int place) {
        if (place < 0 || place >= IMAGES || images[place] == null) {
            return false;
        }
        now.copyFrom(images[place]);
        return true;
    }

    /**
     * A curve whose digits are the places' own digits in a fixed order (ROWS, WOVEN, MIXED).
     * The other kinds turn the digits on the way; a "state" is what they remember of the digits ahead.
     * Axes and base are 2 or 3, never 0: they may divide.
     */
    private static class Curve {
        final int index;
        final int axes;
        final int base;
        final int[] room = new int[AXES];
        final int[] order;
        final long total;

        Curve(int index, int axes, int base, int[] lengths, boolean inRows) {
            this.index = index;
            this.axes = axes;
            this.base = base;
            order = inRows ? axisByAxis(lengths) : woven(lengths);
            long product = 1;
            for (int axis = 0; axis < AXES; axis++) {
                room[axis] = 1;
                for (int i = 0; i < lengths[axis]; i++) {
                    room[axis] *= base;
                }
                product *= room[axis];
            }
            total = product;
        }

        /** The axis that digit i cuts. */
        int axisOf(int i, int state) {
            return order[i];
        }

        /** The PLACE's digit for the NUMBER's digit i, or the other way round: it is the same turn. */
        int turned(int i, int state, int digit) {
            return digit;
        }

        /** The state behind the NUMBER's digit i. */
        int stateAfter(int i, int state, int digit) {
            return 0;
        }

        final boolean holds(int x, int y, int z) {
            return x >= 0 && x < room[0] && y >= 0 && y < room[1] && z >= 0 && z < room[2];
        }

        private static int[] axisByAxis(int[] lengths) {
            int[] order = new int[lengths[0] + lengths[1] + lengths[2]];
            int many = 0;
            for (int axis = 0; axis < AXES; axis++) {
                for (int i = 0; i < lengths[axis]; i++) {
                    order[many] = axis;
                    many++;
                }
            }
            return order;
        }

        private static int[] woven(int[] lengths) {
            int[] order = new int[lengths[0] + lengths[1] + lengths[2]];
            int many = 0;
            int highest = Math.max(lengths[0], Math.max(lengths[1], lengths[2]));
            for (int bit = highest - 1; bit >= 0; bit--) {
                for (int axis = 0; axis < AXES; axis++) {
                    if (lengths[axis] > bit) {
                        order[many] = axis;
                        many++;
                    }
                }
            }
            return order;
        }
    }

    /** TURNING: the state packs the bits of w so far (3), t (2) and e (3), as the document names them. */
    private static final class Turning extends Curve {
        Turning(int index, int axes, int[] lengths) {
            super(index, axes, 2, lengths, false);
        }

        int axisOf(int i, int state) {
            return axes - 1 - bitBeforeTurn(i, state);
        }

        int turned(int i, int state, int digit) {
            int lastOfW = state & 1;
            int ofE = state >> 5 >> bitBeforeTurn(i, state) & 1;
            return digit ^ lastOfW ^ ofE;
        }

        int stateAfter(int i, int state, int digit) {
            int w = (state & 3) << 1 | digit;
            if (i % axes < axes - 1) {
                return state & ~7 | w;
            }
            int t = state >> 3 & 3;
            int e = state >> 5;
            if (w == 0) {
                return e << 5 | (t + 1) % axes << 3;
            }
            int v = w - 1 & ~1;
            int gray = v ^ v >> 1;
            int left = gray << t + 1 | gray >> axes - t - 1;
            int odd = w % 2 == 1 ? w : w - 1;
            int ones = 0;
            while (ones < axes && (odd >> ones & 1) == 1) {
                ones++;
            }
            int mask = (1 << axes) - 1;
            return (e ^ left & mask) << 5 | (t + 1 + ones) % axes << 3;
        }

        // Digit i stands for this bit of l, as l was ahead of its turn to the right.
        private int bitBeforeTurn(int i, int state) {
            int t = state >> 3 & 3;
            return (axes - 1 - i % axes + t + 1) % axes;
        }
    }

    /** SNAIL: the state has a bit for each axis, whether the sum of its thirds so far is odd. */
    private static final class Snail extends Curve {
        Snail(int index, int axes, int[] lengths) {
            super(index, axes, 3, lengths, false);
        }

        int turned(int i, int state, int digit) {
            int ofOthers = state & ~(1 << order[i]);
            return Integer.bitCount(ofOthers) % 2 == 1 ? 2 - digit : digit;
        }

        int stateAfter(int i, int state, int digit) {
            return state ^ (digit & 1) << order[i];
        }
    }

    /**
     * A way through a curve's boxes from the whole down to one PLACE, kept depth by depth, so that the
     * next NUMBER in (or out of) a window is reached by going up only as far as needed.
     */
    private static final class Walk {
        private final int[][] low = new int[AXES][MOST_DIGITS + 1];
        private final int[][] side = new int[AXES][MOST_DIGITS + 1];
        private final int[] state = new int[MOST_DIGITS + 1];
        private final long[] prefix = new long[MOST_DIGITS + 1];
        private final int[] digit = new int[MOST_DIGITS + 1];
        private final int[] windowLow = new int[AXES];
        private final int[] windowHigh = new int[AXES];
        private Curve curve = null;
        private int depths = 0;

        /** Starts on a curve, with all of it as the window. */
        void enter(Curve c) {
            curve = c;
            depths = c.order.length;
            for (int axis = 0; axis < AXES; axis++) {
                low[axis][0] = 0;
                side[axis][0] = c.room[axis];
                windowLow[axis] = 0;
                windowHigh[axis] = c.room[axis] - 1;
            }
        }

        void narrow(int axis, int least, int greatest) {
            windowLow[axis] = least;
            windowHigh[axis] = greatest;
        }

        long windowPlaces() {
            long product = 1;
            for (int axis = 0; axis < AXES; axis++) {
                product *= windowHigh[axis] - windowLow[axis] + 1;
            }
            return product;
        }

        boolean isInWindow(Point p) {
            for (int axis = 0; axis < AXES; axis++) {
                int v = p.on(axis);
                if (v < windowLow[axis] || v > windowHigh[axis]) {
                    return false;
                }
            }
            return true;
        }

        /** The PLACE at which the walk stands, on one axis. */
        int leaf(int axis) {
            return low[axis][depths];
        }

        long numberOf(Curve c, int x, int y, int z) {
            enter(c);
            for (int i = 0; i < depths; i++) {
                int axis = c.axisOf(i, state[i]);
                int part = side[axis][i] / c.base;
                if (part < 1) {
                    return NONE;
                }
                int v = axis == 0 ? x : axis == 1 ? y : z;
                step(i, c.turned(i, state[i], (v - low[axis][i]) / part));
            }
            return prefix[depths];
        }

        /** The least NUMBER from start on that is in the window (inside) or out of it; NONE without one. */
        long seek(long start, boolean inside) {
            if (curve == null || start < 0 || start >= curve.total) {
                return NONE;
            }
            long rest = start;
            for (int i = depths - 1; i >= 0; i--) {
                digit[i] = (int) (rest % curve.base);
                rest /= curve.base;
            }
            int depth = 0;
            while (depth < depths && meets(depth, inside)) {
                step(depth, digit[depth]);
                depth++;
            }
            return meets(depth, inside) ? prefix[depth] : climb(depth, inside);
        }

        /** Likewise, the least NUMBER above that at which the walk stands. */
        long onward(boolean inside) {
            return curve == null ? NONE : climb(depths, inside);
        }

        private long climb(int from, boolean inside) {
            for (int i = from - 1; i >= 0; i--) {
                for (int v = digit[i] + 1; v < curve.base; v++) {
                    step(i, v);
                    if (meets(i + 1, inside)) {
                        return descend(i + 1, inside);
                    }
                }
            }
            return NONE;
        }

        // A box that meets has a part that meets, so each depth finds its digit.
        private long descend(int from, boolean inside) {
            for (int i = from; i < depths; i++) {
                for (int v = 0; v < curve.base; v++) {
                    step(i, v);
                    if (meets(i + 1, inside)) {
                        break;
                    }
                }
            }
            return prefix[depths];
        }

        private void step(int i, int v) {
            int was = state[i];
            int cut = curve.axisOf(i, was);
            for (int axis = 0; axis < AXES; axis++) {
                low[axis][i + 1] = low[axis][i];
                side[axis][i + 1] = side[axis][i];
            }
            int part = side[cut][i] / curve.base;
            side[cut][i + 1] = part;
            low[cut][i + 1] += curve.turned(i, was, v) * part;
            state[i + 1] = curve.stateAfter(i, was, v);
            prefix[i + 1] = prefix[i] * curve.base + v;
            digit[i] = v;
        }

        /** Has the box at a depth a PLACE in the window (inside), or one out of it? */
        private boolean meets(int depth, boolean inside) {
            boolean all = true;
            for (int axis = 0; axis < AXES; axis++) {
                int least = low[axis][depth];
                int greatest = least + side[axis][depth] - 1;
                if (greatest < windowLow[axis] || least > windowHigh[axis]) {
                    return !inside;
                }
                all = all && least >= windowLow[axis] && greatest <= windowHigh[axis];
            }
            return inside || !all;
        }
    }

    /** A POINT, never changed. */
    private static final class Point {
        final int name;
        final long number;
        final int x;
        final int y;
        final int z;
        final int weight;

        Point(int name, long number, int x, int y, int z, int weight) {
            this.name = name;
            this.number = number;
            this.x = x;
            this.y = y;
            this.z = z;
            this.weight = weight;
        }

        int on(int axis) {
            return axis == 0 ? x : axis == 1 ? y : z;
        }

        boolean isAheadOf(Point other) {
            return number < other.number || number == other.number && name < other.name;
        }
    }

    /** POINTS in order and how many of them each PAGE has; it changes only until its act is done. */
    private static final class Row {
        final Point[] points;
        final int[] sizes;
        int many = 0;
        int pages = 0;

        Row() {
            points = new Point[0];
            sizes = new int[0];
        }

        Row(Row old, int coming) {
            points = new Point[old.many + coming];
            sizes = new int[old.pages + coming];
            many = old.many;
            pages = old.pages;
            for (int i = 0; i < many; i++) {
                points[i] = old.points[i];
            }
            for (int k = 0; k < pages; k++) {
                sizes[k] = old.sizes[k];
            }
        }

        /** A POINT comes: the PAGE in which it is then. The row was made with room for it. */
        int come(Point p) {
            if (many >= points.length || pages >= sizes.length) {
                return NONE;
            }
            int i = many;
            while (i > 0 && p.isAheadOf(points[i - 1])) {
                points[i] = points[i - 1];
                i--;
            }
            points[i] = p;
            many++;
            if (pages == 0) {
                pages = 1;
                sizes[0] = 1;
                return 0;
            }
            // The POINT right ahead is in the PAGE that it goes to: a PAGE's first one counts as ahead.
            int k = i == 0 ? 0 : pageOf(i - 1);
            sizes[k]++;
            if (sizes[k] <= PAGE_FULL) {
                return k;
            }
            part(k);
            return pageOf(i);
        }

        void go(int i) {
            int k = pageOf(i);
            if (k < 0) {
                return;
            }
            for (int j = i; j < many - 1; j++) {
                points[j] = points[j + 1];
            }
            many--;
            points[many] = null;
            sizes[k]--;
            if (sizes[k] == 0) {
                removePage(k);
            } else if (k + 1 < pages && sizes[k] + sizes[k + 1] <= MELT_MOST) {
                melt(k);
            } else if (k > 0 && sizes[k - 1] + sizes[k] <= MELT_MOST) {
                melt(k - 1);
            }
        }

        int indexOf(int name) {
            for (int i = 0; i < many; i++) {
                if (points[i].name == name) {
                    return i;
                }
            }
            return NONE;
        }

        /** The PAGE of the i-th POINT; NONE if there is none such. */
        int pageOf(int i) {
            int end = 0;
            for (int k = 0; k < pages; k++) {
                end += sizes[k];
                if (i < end) {
                    return k;
                }
            }
            return NONE;
        }

        int startOf(int page) {
            int start = 0;
            for (int k = 0; k < page; k++) {
                start += sizes[k];
            }
            return start;
        }

        int weightsOf(int first, int count) {
            int sum = 0;
            for (int i = first; i < first + count; i++) {
                sum += points[i].weight;
            }
            return sum;
        }

        int leastOf(int first, int count, int axis) {
            int least = points[first].on(axis);
            for (int i = first + 1; i < first + count; i++) {
                least = Math.min(least, points[i].on(axis));
            }
            return least;
        }

        int greatestOf(int first, int count, int axis) {
            int greatest = points[first].on(axis);
            for (int i = first + 1; i < first + count; i++) {
                greatest = Math.max(greatest, points[i].on(axis));
            }
            return greatest;
        }

        void markNames(boolean[] taken) {
            for (int i = 0; i < taken.length; i++) {
                taken[i] = false;
            }
            for (int i = 0; i < many; i++) {
                if (points[i].name < taken.length) {
                    taken[points[i].name] = true;
                }
            }
        }

        private void part(int k) {
            for (int j = pages; j > k + 1; j--) {
                sizes[j] = sizes[j - 1];
            }
            pages++;
            sizes[k + 1] = sizes[k] - PART_STAYS;
            sizes[k] = PART_STAYS;
        }

        private void melt(int k) {
            sizes[k + 1] += sizes[k];
            removePage(k);
        }

        private void removePage(int k) {
            pages--;
            for (int j = k; j < pages; j++) {
                sizes[j] = sizes[j + 1];
            }
        }
    }

    /** A shelf; it is there when it has a row. */
    private static final class Shelf {
        Curve curve = null;
        Row row = null;
        final Row[] past = new Row[MOST_ACTS];
        int left = 0;

        void begin(Curve c) {
            curve = c;
            row = new Row();
            left = 0;
        }

        void act(Row next) {
            if (left == MOST_ACTS) {
                for (int i = 1; i < MOST_ACTS; i++) {
                    past[i - 1] = past[i];
                }
                left--;
            }
            past[left] = row;
            left++;
            row = next;
        }

        int takeBack() {
            if (left < 1) {
                return NONE;
            }
            left--;
            row = past[left];
            return left;
        }

        void copyFrom(Shelf other) {
            curve = other.curve;
            row = other.row;
            left = other.left;
            for (int i = 0; i < left; i++) {
                past[i] = other.past[i];
            }
        }
    }

    /** SPANS that are told, and how many PLACES the window had whose SPANS they were. */
    private static final class Spans {
        final long[] first = new long[MOST_SPANS];
        final long[] last = new long[MOST_SPANS];
        int many = 0;
        long places = 0;

        void begin(long windowPlaces) {
            many = 0;
            places = windowPlaces;
        }

        void append(long from, long to) {
            if (many < MOST_SPANS) {
                first[many] = from;
                last[many] = to;
                many++;
            }
        }

        long numbers() {
            long sum = 0;
            for (int i = 0; i < many; i++) {
                sum += last[i] - first[i] + 1;
            }
            return sum;
        }

        void meltTo(int n) {
            while (many > n && many > 1) {
                int best = 0;
                for (int i = 1; i + 1 < many; i++) {
                    if (first[i + 1] - last[i] < first[best + 1] - last[best]) {
                        best = i;
                    }
                }
                last[best] = last[best + 1];
                many--;
                for (int i = best + 1; i < many; i++) {
                    first[i] = first[i + 1];
                    last[i] = last[i + 1];
                }
            }
        }

        void copyFrom(Spans other) {
            many = other.many;
            places = other.places;
            System.arraycopy(other.first, 0, first, 0, many);
            System.arraycopy(other.last, 0, last, 0, many);
        }
    }

    /** FOUND POINTS with their DISTANCES, and how many PAGES were READ for them. */
    private static final class Finds {
        final Point[] who;
        final long[] far;
        int many = 0;
        int reads = 0;

        Finds(int most) {
            who = new Point[most];
            far = new long[most];
        }

        void begin() {
            many = 0;
            reads = 0;
        }

        void append(Point p, long distance) {
            if (many < who.length) {
                who[many] = p;
                far[many] = distance;
                many++;
            }
        }

        /** Keeps the nearest ones in order, limit of them at most. */
        void offer(Point p, long distance, int limit) {
            int most = Math.min(limit, who.length);
            int i = many;
            while (i > 0 && isBefore(p, distance, i - 1)) {
                i--;
            }
            if (i >= most) {
                return;
            }
            many = Math.min(many + 1, most);
            for (int j = many - 1; j > i; j--) {
                who[j] = who[j - 1];
                far[j] = far[j - 1];
            }
            who[i] = p;
            far[i] = distance;
        }

        int weights() {
            int sum = 0;
            for (int i = 0; i < many; i++) {
                sum += who[i].weight;
            }
            return sum;
        }

        void copyFrom(Finds other) {
            many = Math.min(other.many, who.length);
            reads = other.reads;
            for (int i = 0; i < many; i++) {
                who[i] = other.who[i];
                far[i] = other.far[i];
            }
        }

        private boolean isBefore(Point p, long distance, int i) {
            return distance < far[i] || distance == far[i] && p.name < who[i].name;
        }
    }

    /** Looks for POINTS near a PLACE by the BOXES of their PAGES. */
    private static final class Search {
        final long[] boxFar = new long[MOST_POINTS];
        final boolean[] isRead = new boolean[MOST_POINTS];
        private int x = 0;
        private int y = 0;
        private int z = 0;
        private int way = 0;

        void aim(int toX, int toY, int toZ, int byWay) {
            x = toX;
            y = toY;
            z = toZ;
            way = byWay;
        }

        /** Sets every PAGE's BOX's DISTANCE; none of them is READ. */
        void measure(Row row) {
            int first = 0;
            for (int k = 0; k < row.pages; k++) {
                int many = row.sizes[k];
                long dx = boxGap(row, first, many, 0, x);
                long dy = boxGap(row, first, many, 1, y);
                long dz = boxGap(row, first, many, 2, z);
                boxFar[k] = distance(way, dx, dy, dz);
                isRead[k] = false;
                first += many;
            }
        }

        void readNearest(Row row, int n, Finds into) {
            measure(row);
            into.begin();
            for (int i = 0; i < row.pages; i++) {
                int k = nextUnread(row.pages);
                if (k < 0 || into.many >= n && boxFar[k] > into.far[n - 1]) {
                    return;
                }
                readPage(row, k, n, into);
            }
        }

        void readWithin(Row row, long most, Finds into) {
            measure(row);
            into.begin();
            for (int k = 0; k < row.pages; k++) {
                if (boxFar[k] > most) {
                    continue;
                }
                into.reads++;
                int first = row.startOf(k);
                for (int i = first; i < first + row.sizes[k]; i++) {
                    long far = farOf(row.points[i]);
                    if (far <= most) {
                        into.offer(row.points[i], far, MOST_POINTS);
                    }
                }
            }
        }

        void readPage(Row row, int k, int limit, Finds into) {
            isRead[k] = true;
            into.reads++;
            int first = row.startOf(k);
            for (int i = first; i < first + row.sizes[k]; i++) {
                into.offer(row.points[i], farOf(row.points[i]), limit);
            }
        }

        void readClosest(Row row, int byWay, Finds into) {
            into.begin();
            into.reads = row.pages;
            Point one = null;
            Point other = null;
            long least = Long.MAX_VALUE;
            for (int i = 1; i < row.many; i++) {
                Point p = row.points[i];
                for (int j = 0; j < i; j++) {
                    Point q = row.points[j];
                    // One axis alone tells of most pairs that they are too far apart.
                    long dx = Math.abs(p.x - q.x);
                    if ((byWay == 2 ? dx * dx : dx) > least) {
                        continue;
                    }
                    long far = between(byWay, p, q);
                    Point lesser = p.name < q.name ? p : q;
                    Point greater = p.name < q.name ? q : p;
                    if (far < least || far == least && comesFirst(lesser, greater, one, other)) {
                        least = far;
                        one = lesser;
                        other = greater;
                    }
                }
            }
            if (one != null && other != null) {
                into.append(one, least);
                into.append(other, least);
            }
        }

        private static boolean comesFirst(Point lesser, Point greater, Point one, Point other) {
            if (one == null || other == null) {
                return true;
            }
            return lesser.name < one.name || lesser.name == one.name && greater.name < other.name;
        }

        private int nextUnread(int pages) {
            int best = NONE;
            for (int k = 0; k < pages; k++) {
                if (!isRead[k] && (best < 0 || boxFar[k] < boxFar[best])) {
                    best = k;
                }
            }
            return best;
        }

        private long farOf(Point p) {
            return distance(way, Math.abs(p.x - x), Math.abs(p.y - y), Math.abs(p.z - z));
        }

        private static long between(int way, Point p, Point q) {
            return distance(way, Math.abs(p.x - q.x), Math.abs(p.y - q.y), Math.abs(p.z - q.z));
        }

        private static long boxGap(Row row, int first, int many, int axis, int v) {
            int least = row.leastOf(first, many, axis);
            int greatest = row.greatestOf(first, many, axis);
            return v < least ? least - v : Math.max(0, v - greatest);
        }

        private static long distance(int way, long dx, long dy, long dz) {
            if (way == 0) {
                return dx + dy + dz;
            }
            return way == 1 ? Math.max(dx, Math.max(dy, dz)) : dx * dx + dy * dy + dz * dz;
        }
    }

    /** All that an image keeps. */
    private static final class State {
        final Curve[] curves = new Curve[MOST_CURVES];
        int curveCount = 0;
        final Shelf[] shelves = new Shelf[MOST_SHELVES];
        final int[] corners = new int[2 * AXES];
        final Spans told = new Spans();
        final Finds finds = new Finds(MOST_POINTS);
        final int[] rackSort = new int[RACK_PLACES];
        final long[] rackFirst = new long[RACK_PLACES];
        final long[] rackSecond = new long[RACK_PLACES];

        State() {
            for (int i = 0; i < MOST_SHELVES; i++) {
                shelves[i] = new Shelf();
            }
            Arrays.fill(rackSort, SORT_NOTHING);
        }

        void setCorner(int from, int x, int y, int z) {
            corners[from] = x;
            corners[from + 1] = y;
            corners[from + 2] = z;
        }

        boolean layOnRack(int k, int sort, long first, long second) {
            rackSort[k] = sort;
            rackFirst[k] = first;
            rackSecond[k] = second;
            return true;
        }

        void copyFrom(State other) {
            curveCount = other.curveCount;
            for (int i = 0; i < curveCount; i++) {
                curves[i] = other.curves[i];
            }
            for (int i = 0; i < MOST_SHELVES; i++) {
                shelves[i].copyFrom(other.shelves[i]);
            }
            System.arraycopy(other.corners, 0, corners, 0, corners.length);
            told.copyFrom(other.told);
            finds.copyFrom(other.finds);
            System.arraycopy(other.rackSort, 0, rackSort, 0, RACK_PLACES);
            System.arraycopy(other.rackFirst, 0, rackFirst, 0, RACK_PLACES);
            System.arraycopy(other.rackSecond, 0, rackSecond, 0, RACK_PLACES);
        }
    }
}
