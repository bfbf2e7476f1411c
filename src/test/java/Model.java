import java.util.ArrayList;
import java.util.Collections;
import java.util.Comparator;
import java.util.HashMap;
import java.util.List;
import java.util.Map;
import java.util.TreeSet;

/**
 * The document once more, in the most literal way and with no regard to speed, to set against CurveShelf:
 * windows are all their PLACES one by one, pages are lists, undo and images are whole copies.
 * Curves whose places are asked for (place, gap) must be small.
 */
final class Model {
    static final class Curve {
        int kind;
        int d;
        int[] bits = new int[3];
        int base;
        Map<Long, int[]> places = null;

        int can(int axis) {
            int p = 1;
            for (int i = 0; i < bits[axis]; i++) {
                p *= base;
            }
            return p;
        }

        long size() {
            return (long) can(0) * can(1) * can(2);
        }

        boolean has(int... at) {
            for (int a = 0; a < 3; a++) {
                if (at[a] < 0 || at[a] >= can(a)) {
                    return false;
                }
            }
            return true;
        }

        long number(int... at) {
            switch (kind) {
                case 0: return ((long) at[0] * can(1) + at[1]) * can(2) + at[2];
                case 2: return turning(at);
                case 3: return snail(at);
                default: return woven(at);
            }
        }

        private long woven(int[] at) {
            StringBuilder digits = new StringBuilder("0");
            for (int bit = 19; bit >= 0; bit--) {
                for (int a = 0; a < 3; a++) {
                    if (bits[a] > bit) {
                        digits.append(at[a] >> bit & 1);
                    }
                }
            }
            return Long.parseLong(digits.toString(), 2);
        }

        private int right(int l, int times) {
            for (int i = 0; i < times; i++) {
                l = l >> 1 | (l & 1) << (d - 1);
            }
            return l;
        }

        private int left(int l, int times) {
            for (int i = 0; i < times; i++) {
                int top = l >> (d - 1) & 1;
                l = (l << 1 | top) & ((1 << d) - 1);
            }
            return l;
        }

        private long turning(int[] at) {
            int e = 0;
            int t = 0;
            long number = 0;
            for (int bit = bits[0] - 1; bit >= 0; bit--) {
                int l = 0;
                for (int a = 0; a < d; a++) {
                    l = l * 2 + (at[a] >> bit & 1);
                }
                l = right(l ^ e, t + 1);
                int w = 0;
                while ((w ^ w >> 1) != l) {
                    w++;
                }
                number = number * (1 << d) + w;
                if (w == 0) {
                    t = (t + 1) % d;
                    continue;
                }
                int v = w - 1;
                while (v % 2 != 0) {
                    v--;
                }
                e = e ^ left(v ^ v >> 1, t + 1);
                String ends = Integer.toBinaryString(w % 2 == 1 ? w : w - 1);
                int u = 0;
                while (ends.endsWith("1")) {
                    u++;
                    ends = ends.substring(0, ends.length() - 1);
                }
                t = (t + 1 + u) % d;
            }
            return number;
        }

        private long snail(int[] at) {
            List<Integer> thirds = new ArrayList<>();
            int part = can(0) / 3;
            for (int level = 0; level < bits[0]; level++) {
                for (int a = 0; a < d; a++) {
                    int sum = 0;
                    for (int i = 0; i < thirds.size(); i++) {
                        if (i % d != a) {
                            sum += thirds.get(i);
                        }
                    }
                    int third = at[a] / part % 3;
                    thirds.add(sum % 2 == 1 ? 2 - third : third);
                }
                part /= 3;
            }
            long number = 0;
            for (int third : thirds) {
                number = number * 3 + third;
            }
            return number;
        }

        int[] place(long number) {
            if (places == null) {
                places = new HashMap<>();
                for (int x = 0; x < can(0); x++) {
                    for (int y = 0; y < can(1); y++) {
                        for (int z = 0; z < can(2); z++) {
                            places.put(number(x, y, z), new int[] {x, y, z});
                        }
                    }
                }
            }
            return places.get(number);
        }
    }

    static final class Point {
        int name;
        int[] at;
        int weight;
        long number;

        boolean ahead(Point o) {
            return number != o.number ? number < o.number : name < o.name;
        }
    }

    static final class Shelf {
        Curve curve;
        int curveNumber;
        List<List<Point>> pages = new ArrayList<>();
        List<List<List<Point>>> past = new ArrayList<>();

        Shelf copy() {
            Shelf s = new Shelf();
            s.curve = curve;
            s.curveNumber = curveNumber;
            s.pages = copyPages(pages);
            for (List<List<Point>> p : past) {
                s.past.add(copyPages(p));
            }
            return s;
        }

        static List<List<Point>> copyPages(List<List<Point>> from) {
            List<List<Point>> to = new ArrayList<>();
            for (List<Point> page : from) {
                to.add(new ArrayList<>(page));
            }
            return to;
        }

        List<Point> all() {
            List<Point> all = new ArrayList<>();
            for (List<Point> page : pages) {
                all.addAll(page);
            }
            return all;
        }

        Point named(int name) {
            for (Point p : all()) {
                if (p.name == name) {
                    return p;
                }
            }
            return null;
        }

        void remember() {
            past.add(copyPages(pages));
            if (past.size() > 6) {
                past.remove(0);
            }
        }

        int come(Point p) {
            int k = 0;
            for (int i = 0; i < pages.size(); i++) {
                if (pages.get(i).get(0).ahead(p)) {
                    k = i;
                }
            }
            if (pages.isEmpty()) {
                pages.add(new ArrayList<>());
            }
            List<Point> page = pages.get(k);
            page.add(p);
            page.sort((a, b) -> a.ahead(b) ? -1 : b.ahead(a) ? 1 : 0);
            if (page.size() == 17) {
                pages.set(k, new ArrayList<>(page.subList(0, 9)));
                pages.add(k + 1, new ArrayList<>(page.subList(9, 17)));
            }
            return pages.get(k).contains(p) ? k : k + 1;
        }

        void go(Point p) {
            int k = 0;
            while (!pages.get(k).contains(p)) {
                k++;
            }
            pages.get(k).remove(p);
            int left = pages.get(k).size();
            if (left == 0) {
                pages.remove(k);
            } else if (k + 1 < pages.size() && left + pages.get(k + 1).size() <= 10) {
                pages.get(k).addAll(pages.remove(k + 1));
            } else if (k > 0 && left + pages.get(k - 1).size() <= 10) {
                pages.get(k - 1).addAll(pages.remove(k));
            }
        }
    }

    static final class State {
        List<Curve> curves = new ArrayList<>();
        Shelf[] shelves = new Shelf[4];
        int[] lo = new int[3];
        int[] hi = new int[3];
        List<long[]> told = new ArrayList<>();
        long toldPlaces = 0;
        List<Point> found = new ArrayList<>();
        List<Long> far = new ArrayList<>();
        int reads = 0;
        long[][] rack = new long[8][];

        State copy() {
            State s = new State();
            s.curves.addAll(curves);
            for (int i = 0; i < 4; i++) {
                s.shelves[i] = shelves[i] == null ? null : shelves[i].copy();
            }
            s.lo = lo.clone();
            s.hi = hi.clone();
            for (long[] t : told) {
                s.told.add(t.clone());
            }
            s.toldPlaces = toldPlaces;
            s.found.addAll(found);
            s.far.addAll(far);
            s.reads = reads;
            s.rack = rack.clone();
            return s;
        }
    }

    State now = new State();
    State[] images = new State[2];
    List<Integer> out = new ArrayList<>();

    int curve(int kind, int d, int a, int b, int c) {
        boolean own = kind == 0 || kind == 4;
        boolean fine = kind >= 0 && kind <= 4 && (d == 2 || d == 3) && now.curves.size() < 8;
        int most = kind == 3 ? 12 : 20;
        fine &= a >= 1 && a <= most;
        fine &= own ? b >= 1 && b <= 20 : b == 0;
        fine &= own && d == 3 ? c >= 1 && c <= 20 : c == 0;
        if (!fine) {
            return -1;
        }
        Curve made = new Curve();
        made.kind = kind;
        made.d = d;
        made.base = kind == 3 ? 3 : 2;
        made.bits[0] = a;
        made.bits[1] = own ? b : a;
        made.bits[2] = d == 2 ? 0 : own ? c : a;
        now.curves.add(made);
        return now.curves.size() - 1;
    }

    Curve curveAt(int i) {
        return i < 0 || i >= now.curves.size() ? null : now.curves.get(i);
    }

    Shelf shelfAt(int i) {
        return i < 0 || i > 3 ? null : now.shelves[i];
    }

    long number(int curve, int x, int y, int z) {
        Curve c = curveAt(curve);
        return c == null || !c.has(x, y, z) ? -1 : c.number(x, y, z);
    }

    int place(int curve, long number, int axis) {
        Curve c = curveAt(curve);
        return c == null || number < 0 || number >= c.size() || axis < 0 || axis > 2 ? -1 : c.place(number)[axis];
    }

    long size(int curve) {
        return curveAt(curve) == null ? 0 : curveAt(curve).size();
    }

    int gap(int curve, long from, int n) {
        Curve c = curveAt(curve);
        if (c == null || n < 1 || n > 300) {
            return -1;
        }
        int greatest = -1;
        for (int i = 0; i < n; i++) {
            int[] a = from < 0 || from >= c.size() - 1 ? null : c.place(from + i);
            int[] b = a == null ? null : c.place(from + i + 1);
            if (b == null) {
                return -1;
            }
            greatest = (int) Math.max(greatest, distance(0, a, b));
        }
        return greatest;
    }

    boolean shelf(int shelf, int curve) {
        if (shelf < 0 || shelf > 3 || curveAt(curve) == null) {
            return false;
        }
        now.shelves[shelf] = new Shelf();
        now.shelves[shelf].curve = curveAt(curve);
        now.shelves[shelf].curveNumber = curve;
        return true;
    }

    static Point point(Curve c, int name, int x, int y, int z, int weight) {
        Point p = new Point();
        p.name = name;
        p.at = new int[] {x, y, z};
        p.weight = weight;
        p.number = c.number(x, y, z);
        return p;
    }

    int put(int shelf, int name, int x, int y, int z, int weight) {
        Shelf s = shelfAt(shelf);
        if (s == null) {
            return -1;
        }
        if (name < 0 || name > 9999 || weight < 0 || weight > 1000 || !s.curve.has(x, y, z)) {
            return -2;
        }
        if (s.named(name) != null) {
            return -5;
        }
        if (s.all().size() == 300) {
            return -6;
        }
        s.remember();
        return s.come(point(s.curve, name, x, y, z, weight));
    }

    int drop(int shelf, int name) {
        Shelf s = shelfAt(shelf);
        if (s == null || s.named(name) == null) {
            return -1;
        }
        s.remember();
        s.go(s.named(name));
        return s.all().size();
    }

    int move(int shelf, int name, int x, int y, int z) {
        Shelf s = shelfAt(shelf);
        if (s == null || s.named(name) == null) {
            return -1;
        }
        if (!s.curve.has(x, y, z)) {
            return -2;
        }
        s.remember();
        Point old = s.named(name);
        s.go(old);
        return s.come(point(s.curve, name, x, y, z, old.weight));
    }

    int sow(int shelf, int n, int seed) {
        Shelf s = shelfAt(shelf);
        if (s == null) {
            return -1;
        }
        if (n < 1 || n > 40) {
            return -2;
        }
        if (s.all().size() + n > 300) {
            return -6;
        }
        s.remember();
        int g = seed;
        for (int i = 0; i < n; i++) {
            int[] drawn = new int[4];
            for (int a = 0; a < 4; a++) {
                if (a == 2 && s.curve.d == 2) {
                    continue;
                }
                g = 1103515245 * g + 12345;
                drawn[a] = (g >>> 8) % (a == 3 ? 101 : s.curve.can(a));
            }
            int name = 0;
            while (s.named(name) != null) {
                name++;
            }
            s.come(point(s.curve, name, drawn[0], drawn[1], drawn[2], drawn[3]));
        }
        return s.all().size();
    }

    int find(int shelf, int name) {
        Shelf s = shelfAt(shelf);
        return s == null ? -1 : s.all().indexOf(s.named(name));
    }

    int pageOf(Shelf s, Point p) {
        for (int k = 0; k < s.pages.size(); k++) {
            if (s.pages.get(k).contains(p)) {
                return k;
            }
        }
        return -1;
    }

    int at(int shelf, int i, int what) {
        Shelf s = shelfAt(shelf);
        if (s == null || i < 0 || i >= s.all().size() || what < 0 || what > 5) {
            return -1;
        }
        Point p = s.all().get(i);
        return new int[] {p.name, p.at[0], p.at[1], p.at[2], p.weight, pageOf(s, p)}[what];
    }

    static int weights(List<Point> of) {
        int sum = 0;
        for (Point p : of) {
            sum += p.weight;
        }
        return sum;
    }

    int count(int shelf, int what) {
        Shelf s = shelfAt(shelf);
        if (s == null || what < 0 || what > 4) {
            return -1;
        }
        List<Point> all = s.all();
        return new int[] {all.size(), s.pages.size(), weights(all), s.curveNumber, s.past.size()}[what];
    }

    static int[] box(List<Point> page) {
        int[] b = {1 << 30, 1 << 30, 1 << 30, -1, -1, -1};
        for (Point p : page) {
            for (int a = 0; a < 3; a++) {
                b[a] = Math.min(b[a], p.at[a]);
                b[a + 3] = Math.max(b[a + 3], p.at[a]);
            }
        }
        return b;
    }

    int page(int shelf, int k, int what) {
        Shelf s = shelfAt(shelf);
        if (s == null || k < 0 || k >= s.pages.size() || what < 0 || what > 8) {
            return -1;
        }
        List<Point> page = s.pages.get(k);
        if (what == 0) {
            return page.size();
        }
        if (what == 1) {
            return weights(page);
        }
        return what == 8 ? s.all().indexOf(page.get(0)) : box(page)[what - 2];
    }

    int undo(int shelf) {
        Shelf s = shelfAt(shelf);
        if (s == null || s.past.isEmpty()) {
            return -1;
        }
        s.pages = s.past.remove(s.past.size() - 1);
        return s.past.size();
    }

    void low(int x, int y, int z) {
        now.lo = new int[] {x, y, z};
    }

    void high(int x, int y, int z) {
        now.hi = new int[] {x, y, z};
    }

    boolean windowOf(Curve c) {
        return c != null && c.has(now.lo) && c.has(now.hi)
            && now.lo[0] <= now.hi[0] && now.lo[1] <= now.hi[1] && now.lo[2] <= now.hi[2];
    }

    static TreeSet<Long> numbers(Curve c, int[] lo, int[] hi) {
        TreeSet<Long> all = new TreeSet<>();
        for (int x = lo[0]; x <= hi[0]; x++) {
            for (int y = lo[1]; y <= hi[1]; y++) {
                for (int z = lo[2]; z <= hi[2]; z++) {
                    all.add(c.number(x, y, z));
                }
            }
        }
        return all;
    }

    static List<long[]> rows(TreeSet<Long> numbers) {
        List<long[]> rows = new ArrayList<>();
        for (long n : numbers) {
            if (rows.isEmpty() || rows.get(rows.size() - 1)[1] != n - 1) {
                rows.add(new long[] {n, n});
            }
            rows.get(rows.size() - 1)[1] = n;
        }
        return rows;
    }

    int spans(int curve) {
        Curve c = curveAt(curve);
        if (!windowOf(c)) {
            return -1;
        }
        TreeSet<Long> all = numbers(c, now.lo, now.hi);
        List<long[]> rows = rows(all);
        if (rows.size() > 200) {
            return -2;
        }
        now.told = rows;
        now.toldPlaces = all.size();
        return rows.size();
    }

    long span(int i, int which) {
        return i < 0 || i >= now.told.size() || which < 0 || which > 1 ? -1 : now.told.get(i)[which];
    }

    int few(int n) {
        if (n < 1) {
            return -1;
        }
        while (now.told.size() > n) {
            long fewest = Long.MAX_VALUE;
            for (int i = 0; i + 1 < now.told.size(); i++) {
                fewest = Math.min(fewest, now.told.get(i + 1)[0] - now.told.get(i)[1] - 1);
            }
            for (int i = 0; i + 1 < now.told.size(); i++) {
                if (now.told.get(i + 1)[0] - now.told.get(i)[1] - 1 == fewest) {
                    now.told.get(i)[1] = now.told.remove(i + 1)[1];
                    break;
                }
            }
        }
        return now.told.size();
    }

    long beyond() {
        long sum = -now.toldPlaces;
        for (long[] t : now.told) {
            sum += t[1] - t[0] + 1;
        }
        return sum;
    }

    long jump(int curve, long from) {
        Curve c = curveAt(curve);
        Long next = windowOf(c) ? numbers(c, now.lo, now.hi).higher(from) : null;
        return next == null ? -1 : next;
    }

    int points(int shelf) {
        Shelf s = shelfAt(shelf);
        if (s == null || !windowOf(s.curve)) {
            return -1;
        }
        begin();
        TreeSet<Long> all = numbers(s.curve, now.lo, now.hi);
        for (List<Point> page : s.pages) {
            Long next = all.ceiling(page.get(0).number);
            if (next != null && next <= page.get(page.size() - 1).number) {
                now.reads++;
            }
            for (Point p : page) {
                if (all.contains(p.number)) {
                    now.found.add(p);
                    now.far.add(0L);
                }
            }
        }
        return now.found.size();
    }

    void begin() {
        now.found = new ArrayList<>();
        now.far = new ArrayList<>();
        now.reads = 0;
    }

    static long distance(int way, int[] a, int[] b) {
        long sum = 0;
        long most = 0;
        long squares = 0;
        for (int i = 0; i < 3; i++) {
            long diff = Math.abs((long) a[i] - b[i]);
            sum += diff;
            most = Math.max(most, diff);
            squares += diff * diff;
        }
        return way == 0 ? sum : way == 1 ? most : squares;
    }

    static long boxDistance(int way, List<Point> page, int[] to) {
        int[] b = box(page);
        int[] best = new int[3];
        for (int a = 0; a < 3; a++) {
            best[a] = Math.max(b[a], Math.min(b[a + 3], to[a]));
        }
        return distance(way, best, to);
    }

    static Comparator<Point> byFar(int way, int[] to) {
        return Comparator.<Point>comparingLong(p -> distance(way, p.at, to)).thenComparingInt(p -> p.name);
    }

    boolean refuses(int shelf, int[] to, int way, int n) {
        Shelf s = shelfAt(shelf);
        return s == null || !s.curve.has(to) || way < 0 || way > 2 || n < 1 || n > 20;
    }

    /** The PAGES that are READ for the nearest n; what they hold is put into seen. */
    static TreeSet<Integer> readNearest(Shelf s, int[] to, int way, int n, List<Point> seen) {
        List<Integer> order = new ArrayList<>();
        for (int k = 0; k < s.pages.size(); k++) {
            order.add(k);
        }
        order.sort(Comparator.comparingLong(k -> boxDistance(way, s.pages.get(k), to)));
        TreeSet<Integer> read = new TreeSet<>();
        for (int k : order) {
            seen.sort(byFar(way, to));
            if (seen.size() >= n && boxDistance(way, s.pages.get(k), to) > distance(way, seen.get(n - 1).at, to)) {
                break;
            }
            seen.addAll(s.pages.get(k));
            read.add(k);
        }
        return read;
    }

    int nearest(int shelf, int x, int y, int z, int way, int n) {
        int[] to = {x, y, z};
        if (refuses(shelf, to, way, n)) {
            return -1;
        }
        Shelf s = shelfAt(shelf);
        begin();
        now.reads = readNearest(s, to, way, n, new ArrayList<>()).size();
        List<Point> all = s.all();
        all.sort(byFar(way, to));
        tell(all.subList(0, Math.min(n, all.size())), way, to);
        return now.found.size();
    }

    void tell(List<Point> points, int way, int[] to) {
        for (Point p : points) {
            now.found.add(p);
            now.far.add(distance(way, p.at, to));
        }
    }

    int within(int shelf, int x, int y, int z, int way, int distance) {
        int[] to = {x, y, z};
        if (refuses(shelf, to, way, 1) || distance < 0) {
            return -1;
        }
        Shelf s = shelfAt(shelf);
        begin();
        List<Point> near = new ArrayList<>();
        for (List<Point> page : s.pages) {
            now.reads += boxDistance(way, page, to) <= distance ? 1 : 0;
            for (Point p : page) {
                if (distance(way, p.at, to) <= distance) {
                    near.add(p);
                }
            }
        }
        near.sort(byFar(way, to));
        tell(near, way, to);
        return near.size();
    }

    int pairs(int shelf, int way) {
        Shelf s = shelfAt(shelf);
        if (s == null || way < 0 || way > 2) {
            return -1;
        }
        begin();
        now.reads = s.pages.size();
        List<Point> all = s.all();
        all.sort(Comparator.comparingInt(p -> p.name));
        long least = Long.MAX_VALUE;
        for (int i = 0; i < all.size(); i++) {
            for (int j = i + 1; j < all.size(); j++) {
                long far = distance(way, all.get(i).at, all.get(j).at);
                if (far < least) {
                    least = far;
                    begin();
                    now.reads = s.pages.size();
                    Collections.addAll(now.found, all.get(i), all.get(j));
                    Collections.addAll(now.far, far, far);
                }
            }
        }
        return now.found.size();
    }

    long found(int i, int what) {
        if (i < 0 || i >= now.found.size() || what < 0 || what > 1) {
            return -1;
        }
        return what == 0 ? now.found.get(i).name : now.far.get(i);
    }

    int spent(int what) {
        return what < 0 || what > 2 ? -1 : new int[] {now.found.size(), weights(now.found), now.reads}[what];
    }

    /** Windows and spans together; null if there can be no mean. */
    long[] sums(int curve, int s, int w, int h) {
        Curve c = curveAt(curve);
        if (c == null || c.d != 2 || s < 1 || s > 64 || !c.has(s - 1, s - 1, 0) || w < 1 || w > s || h < 1 || h > s) {
            return null;
        }
        long[] sums = new long[2];
        for (int x = 0; x + w <= s; x++) {
            for (int y = 0; y + h <= s; y++) {
                sums[0]++;
                sums[1] += rows(numbers(c, new int[] {x, y, 0}, new int[] {x + w - 1, y + h - 1, 0})).size();
            }
        }
        return sums;
    }

    long mean(int curve, int s, int w, int h, int what) {
        long[] sums = what < 0 || what > 3 ? null : sums(curve, s, w, h);
        if (sums == null) {
            return -1;
        }
        long divisor = sums[0];
        while (sums[0] % divisor != 0 || sums[1] % divisor != 0) {
            divisor--;
        }
        return what < 2 ? sums[what] : what == 2 ? sums[1] / divisor : sums[0] / divisor;
    }

    int compare(int one, int other, int s, int w, int h) {
        long[] a = sums(one, s, w, h);
        long[] b = sums(other, s, w, h);
        return a == null || b == null ? -2 : Long.compare(a[1] * b[0], b[1] * a[0]);
    }

    int witness(int shelf, int x, int y, int z, int way, int n) {
        int[] to = {x, y, z};
        if (refuses(shelf, to, way, n)) {
            return -1;
        }
        Shelf s = shelfAt(shelf);
        TreeSet<Integer> read = readNearest(s, to, way, n, new ArrayList<>());
        out = new ArrayList<>();
        for (int k = 0; k < s.pages.size(); k++) {
            out.add(read.contains(k) ? 1 : 0);
            String hex = String.format("%016x", boxDistance(way, s.pages.get(k), to));
            for (int i = 0; i < 16; i += 2) {
                out.add(Integer.parseInt(hex.substring(i, i + 2), 16));
            }
        }
        return out.size();
    }

    int out(int i) {
        return i < 0 || i >= out.size() ? -1 : out.get(i);
    }

    int forge(int i, int v) {
        return i < 0 || i >= out.size() ? -1 : out.set(i, v & 255);
    }

    int check(int shelf, int x, int y, int z, int way, int n) {
        int[] to = {x, y, z};
        if (refuses(shelf, to, way, n)) {
            return -2;
        }
        Shelf s = shelfAt(shelf);
        if (out.size() != 9 * s.pages.size()) {
            return -2;
        }
        List<Point> seen = new ArrayList<>();
        for (int k = 0; k < s.pages.size(); k++) {
            StringBuilder hex = new StringBuilder();
            for (int i = 1; i < 9; i++) {
                hex.append(String.format("%02x", out.get(9 * k + i)));
            }
            String want = String.format("%016x", boxDistance(way, s.pages.get(k), to));
            if (out.get(9 * k) > 1 || !hex.toString().equals(want)) {
                return k;
            }
            if (out.get(9 * k) == 1) {
                seen.addAll(s.pages.get(k));
            }
        }
        seen.sort(byFar(way, to));
        long f = seen.size() < n ? Long.MAX_VALUE : distance(way, seen.get(n - 1).at, to);
        for (int k = 0; k < s.pages.size(); k++) {
            if (out.get(9 * k) == 0 && boxDistance(way, s.pages.get(k), to) <= f) {
                return k;
            }
        }
        return -1;
    }

    boolean lay(int k, int what, int shelf, int n) {
        if (k < 0 || k > 7 || what < 0 || what > 3) {
            return false;
        }
        Shelf s = shelfAt(shelf);
        long[] laid = null;
        if (what == 0 && s != null && s.named(n) != null) {
            laid = new long[] {0, s.named(n).number, s.named(n).weight};
        } else if (what == 1 && s != null && n >= 0 && n < s.pages.size()) {
            laid = new long[] {1, s.pages.get(n).size(), weights(s.pages.get(n))};
        } else if (what == 2 && curveAt(n) != null) {
            laid = new long[] {2, curveAt(n).size()};
        } else if (what != 3) {
            return false;
        }
        now.rack[k] = laid;
        return true;
    }

    long ask(int k, int as) {
        if (k < 0 || k > 7 || as < 0 || as > 5) {
            return -4;
        }
        long[] laid = now.rack[k];
        if (laid == null) {
            return -3;
        }
        switch (as) {
            case 0: return laid[0] == 0 ? laid[1] : -2;
            case 1: return laid[0] == 0 ? laid[2] : -2;
            case 2: return laid[0] == 1 ? laid[1] : -2;
            case 3: return laid[0] == 1 ? laid[2] : -2;
            case 4: return laid[0] == 2 ? laid[1] : -2;
            default: return laid[0];
        }
    }

    boolean image(int place) {
        if (place < 0 || place > 1) {
            return false;
        }
        images[place] = now.copy();
        return true;
    }

    boolean back(int place) {
        if (place < 0 || place > 1 || images[place] == null) {
            return false;
        }
        now = images[place].copy();
        return true;
    }
}
