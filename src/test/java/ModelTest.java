import java.util.Random;

/** Runs of 512 calls with drawn arguments (the same ones every time), set against the Model, call by call. */
public final class ModelTest {
    private final Random draw;
    private final CurveShelf real = new CurveShelf();
    private final Model model = new Model();
    private final int run;

    private ModelTest(int run) {
        this.run = run;
        draw = new Random(run * 7919L + 13);
    }

    public static void main(String[] args) {
        int runs = args.length > 0 ? Integer.parseInt(args[0]) : 400;
        for (int run = 0; run < runs; run++) {
            new ModelTest(run).play();
        }
        Due.end();
    }

    private void play() {
        int calls = 0;
        due("image 1", real.image(1), model.image(1));
        for (; calls < 5; calls++) {
            goodCurve();
        }
        for (int s = 0; s < 3; s++) {
            int c = draw.nextInt(5);
            due("shelf " + s + " " + c, real.shelf(s, c), model.shelf(s, c));
            calls++;
        }
        boolean crowded = run % 4 == 0;
        for (; calls < 512; calls++) {
            if (crowded && calls < 60 && draw.nextInt(3) > 0) {
                sow(draw.nextInt(2), 40);
            } else {
                any();
            }
        }
        wholeShelves();
    }

    private void due(String call, long got, long want) {
        Due.is("run " + run + ": " + call, got, want);
    }

    private void due(String call, boolean got, boolean want) {
        Due.is("run " + run + ": " + call, got, want);
    }

    private int edge(int most) {
        int r = draw.nextInt(20);
        if (r == 0) {
            return -1 - draw.nextInt(3);
        }
        if (r == 1) {
            return most + draw.nextInt(3);
        }
        return r == 2 && draw.nextInt(4) == 0 ? draw.nextInt() : draw.nextInt(Math.max(1, most));
    }

    private void goodCurve() {
        int kind = draw.nextInt(5);
        int d = 2 + draw.nextInt(2);
        int most = kind == 3 ? d == 2 ? 3 : 2 : d == 2 ? 5 : 3;
        int a = 1 + draw.nextInt(most);
        boolean own = kind == 0 || kind == 4;
        int b = own ? 1 + draw.nextInt(most) : 0;
        int c = own && d == 3 ? 1 + draw.nextInt(most) : 0;
        curve(kind, d, a, b, c);
    }

    private void curve(int kind, int d, int a, int b, int c) {
        String call = "curve " + kind + " " + d + " " + a + " " + b + " " + c;
        due(call, real.curve(kind, d, a, b, c), model.curve(kind, d, a, b, c));
    }

    private void sow(int s, int n) {
        int seed = draw.nextInt();
        due("sow " + s + " " + n + " " + seed, real.sow(s, n, seed), model.sow(s, n, seed));
    }

    /** A value on an axis of the curve of a shelf (or of curve 0), now and then one that can't be. */
    private int on(Model.Curve c, int axis) {
        int can = c == null ? 8 : c.can(axis);
        return draw.nextInt(25) == 0 ? edge(can) : draw.nextInt(can);
    }

    private Model.Curve curveOf(int shelf) {
        Model.Shelf s = model.shelfAt(shelf);
        return s == null ? model.curveAt(0) : s.curve;
    }

    private int someName(int shelf) {
        Model.Shelf s = model.shelfAt(shelf);
        if (s == null || s.all().isEmpty() || draw.nextInt(8) == 0) {
            return draw.nextInt(10) == 0 ? edge(10000) : draw.nextInt(60);
        }
        return s.all().get(draw.nextInt(s.all().size())).name;
    }

    private void any() {
        int what = draw.nextInt(100);
        if (what < 6) {
            curves();
        } else if (what < 40) {
            acts();
        } else if (what < 58) {
            window();
        } else if (what < 74) {
            finds();
        } else if (what < 76) {
            means();
        } else if (what < 86) {
            witnesses();
        } else if (what < 94) {
            rack();
        } else {
            images();
        }
    }

    private void curves() {
        int c = edge(6);
        Model.Curve it = model.curveAt(c);
        long size = model.size(c);
        switch (draw.nextInt(6)) {
            case 0: {
                int x = on(it, 0);
                int y = on(it, 1);
                int z = on(it, 2);
                due("number " + c + " " + x + " " + y + " " + z, real.number(c, x, y, z), model.number(c, x, y, z));
                break;
            }
            case 1: {
                long n = draw.nextInt((int) size + 2) - 1;
                int axis = edge(3);
                due("place " + c + " " + n + " " + axis, real.place(c, n, axis), model.place(c, n, axis));
                break;
            }
            case 2:
                due("size " + c, real.size(c), size);
                break;
            case 3: {
                long n = draw.nextInt((int) size + 2) - 1;
                int steps = draw.nextInt(3) == 0 ? edge(301) : 1 + draw.nextInt(6);
                due("gap " + c + " " + n + " " + steps, real.gap(c, n, steps), model.gap(c, n, steps));
                break;
            }
            case 4:
                curve(edge(5), 1 + draw.nextInt(4), edge(4), edge(4), edge(4));
                break;
            default: {
                int s = edge(4);
                if (draw.nextInt(6) == 0) {
                    due("shelf " + s + " " + c, real.shelf(s, c), model.shelf(s, c));
                }
                break;
            }
        }
    }

    private void acts() {
        int s = draw.nextInt(12) == 0 ? edge(4) : draw.nextInt(2);
        Model.Curve c = curveOf(s);
        int x = on(c, 0);
        int y = on(c, 1);
        int z = on(c, 2);
        int name = someName(s);
        switch (draw.nextInt(13)) {
            case 0:
            case 1:
            case 2: {
                int fresh = draw.nextInt(3) == 0 ? name : draw.nextInt(400);
                int weight = draw.nextInt(10) == 0 ? edge(1001) : draw.nextInt(50);
                due("put " + s + " " + fresh + " " + x + " " + y + " " + z + " " + weight,
                    real.put(s, fresh, x, y, z, weight), model.put(s, fresh, x, y, z, weight));
                break;
            }
            case 3:
            case 4:
            case 5:
                due("drop " + s + " " + name, real.drop(s, name), model.drop(s, name));
                break;
            case 6:
            case 7:
                due("move " + s + " " + name, real.move(s, name, x, y, z), model.move(s, name, x, y, z));
                break;
            case 8:
                sow(s, draw.nextInt(3) == 0 ? edge(41) : 1 + draw.nextInt(6));
                break;
            case 9:
                due("undo " + s, real.undo(s), model.undo(s));
                break;
            case 10:
                due("find " + s + " " + name, real.find(s, name), model.find(s, name));
                break;
            case 11: {
                int what = edge(5);
                due("count " + s + " " + what, real.count(s, what), model.count(s, what));
                break;
            }
            default: {
                int i = edge(Math.max(1, model.count(s, 0)));
                int k = edge(Math.max(1, model.count(s, 1)));
                int what = edge(9);
                due("at " + s + " " + i + " " + what, real.at(s, i, what), model.at(s, i, what));
                due("page " + s + " " + k + " " + what, real.page(s, k, what), model.page(s, k, what));
                break;
            }
        }
    }

    private void corners() {
        Model.Curve c = model.curveAt(draw.nextInt(5));
        int[] a = new int[3];
        int[] b = new int[3];
        for (int axis = 0; axis < 3; axis++) {
            a[axis] = on(c, axis);
            b[axis] = on(c, axis);
            if (a[axis] > b[axis] && draw.nextInt(10) > 0) {
                int t = a[axis];
                a[axis] = b[axis];
                b[axis] = t;
            }
        }
        real.low(a[0], a[1], a[2]);
        model.low(a[0], a[1], a[2]);
        real.high(b[0], b[1], b[2]);
        model.high(b[0], b[1], b[2]);
    }

    private void window() {
        int c = draw.nextInt(8) == 0 ? edge(8) : draw.nextInt(5);
        switch (draw.nextInt(8)) {
            case 0:
            case 1:
                corners();
                break;
            case 2:
            case 3:
                due("spans " + c, real.spans(c), model.spans(c));
                break;
            case 4: {
                int i = edge(Math.max(1, model.now.told.size()));
                int which = edge(2);
                due("span " + i + " " + which, real.span(i, which), model.span(i, which));
                break;
            }
            case 5: {
                int n = draw.nextInt(12);
                due("few " + n, real.few(n), model.few(n));
                break;
            }
            case 6:
                due("beyond", real.beyond(), model.beyond());
                break;
            default: {
                long from = draw.nextInt(6) == 0 ? draw.nextLong() : draw.nextInt((int) model.size(c) + 4) - 3;
                due("jump " + c + " " + from, real.jump(c, from), model.jump(c, from));
                break;
            }
        }
    }

    private void finds() {
        int s = draw.nextInt(12) == 0 ? edge(4) : draw.nextInt(2);
        Model.Curve c = curveOf(s);
        int x = on(c, 0);
        int y = on(c, 1);
        int z = on(c, 2);
        int way = draw.nextInt(12) == 0 ? edge(3) : draw.nextInt(3);
        String to = s + " " + x + " " + y + " " + z + " " + way + " ";
        switch (draw.nextInt(4)) {
            case 0:
                due("points " + s, real.points(s), model.points(s));
                break;
            case 1: {
                int n = draw.nextInt(3) == 0 ? edge(21) : 1 + draw.nextInt(5);
                due("nearest " + to + n, real.nearest(s, x, y, z, way, n), model.nearest(s, x, y, z, way, n));
                break;
            }
            case 2: {
                int far = draw.nextInt(3) == 0 ? edge(500) : draw.nextInt(8);
                due("within " + to + far, real.within(s, x, y, z, way, far), model.within(s, x, y, z, way, far));
                break;
            }
            default:
                due("pairs " + s + " " + way, real.pairs(s, way), model.pairs(s, way));
                break;
        }
        told();
    }

    private void told() {
        for (int what = -1; what <= 3; what++) {
            due("spent " + what, real.spent(what), model.spent(what));
        }
        for (int i = -1; i <= model.now.found.size(); i++) {
            due("found " + i + " 0", real.found(i, 0), model.found(i, 0));
            due("found " + i + " 1", real.found(i, 1), model.found(i, 1));
        }
        due("found 0 2", real.found(0, 2), -1);
        due("found 0 -1", real.found(0, -1), -1);
    }

    private void means() {
        int c = edge(5);
        int other = edge(5);
        int s = draw.nextInt(5) == 0 ? edge(65) : 1 + draw.nextInt(8);
        int w = edge(Math.max(1, s)) + (draw.nextInt(4) > 0 ? 1 : 0);
        int h = edge(Math.max(1, s)) + (draw.nextInt(4) > 0 ? 1 : 0);
        int what = edge(4);
        String of = " " + s + " " + w + " " + h + " ";
        due("mean " + c + of + what, real.mean(c, s, w, h, what), model.mean(c, s, w, h, what));
        due("compare " + c + " " + other + of, real.compare(c, other, s, w, h), model.compare(c, other, s, w, h));
    }

    private void witnesses() {
        int s = draw.nextInt(12) == 0 ? edge(4) : draw.nextInt(2);
        Model.Curve c = curveOf(s);
        int x = on(c, 0);
        int y = on(c, 1);
        int z = on(c, 2);
        int way = draw.nextInt(12) == 0 ? edge(3) : draw.nextInt(3);
        int n = draw.nextInt(3) == 0 ? edge(21) : 1 + draw.nextInt(5);
        String to = s + " " + x + " " + y + " " + z + " " + way + " " + n;
        due("witness " + to, real.witness(s, x, y, z, way, n), model.witness(s, x, y, z, way, n));
        for (int i = -1; i <= model.out.size(); i++) {
            due("out " + i, real.out(i), model.out(i));
        }
        for (int time = 0; time < 3; time++) {
            int less = 1 + draw.nextInt(8);
            due("check " + to, real.check(s, x, y, z, way, n), model.check(s, x, y, z, way, n));
            due("check " + less, real.check(s, x, y, z, way, less), model.check(s, x, y, z, way, less));
            int i = draw.nextInt(3) == 0 ? edge(model.out.size()) : 9 * draw.nextInt(model.out.size() / 9 + 1);
            int v = draw.nextInt(4) == 0 ? draw.nextInt(600) - 300 : 1 - Math.max(0, model.out(i));
            due("forge " + i + " " + v, real.forge(i, v), model.forge(i, v));
        }
    }

    private void rack() {
        int k = edge(8);
        if (draw.nextInt(3) > 0) {
            int s = draw.nextInt(6) == 0 ? edge(4) : draw.nextInt(2);
            int what = edge(4);
            int n = what == 0 ? someName(s) : edge(6);
            due("lay " + k + " " + what + " " + s + " " + n, real.lay(k, what, s, n), model.lay(k, what, s, n));
        }
        for (int as = -1; as <= 6; as++) {
            due("ask " + k + " " + as, real.ask(k, as), model.ask(k, as));
        }
    }

    private void images() {
        int place = edge(2);
        if (draw.nextInt(3) > 0) {
            due("image " + place, real.image(place), model.image(place));
        } else {
            due("back " + place, real.back(place), model.back(place));
            told();
            wholeShelves();
            if (draw.nextBoolean()) {
                goodCurve();
            }
        }
    }

    private void wholeShelves() {
        for (int s = 0; s < 4; s++) {
            for (int what = 0; what < 5; what++) {
                due("count " + s + " " + what, real.count(s, what), model.count(s, what));
            }
            int pages = model.count(s, 1);
            for (int k = 0; k < pages; k++) {
                due("page " + s + " " + k + " 0", real.page(s, k, 0), model.page(s, k, 0));
            }
            int points = model.count(s, 0);
            for (int i = 0; i < points; i += 1 + points / 20) {
                for (int what = 0; what < 6; what++) {
                    due("at " + s + " " + i + " " + what, real.at(s, i, what), model.at(s, i, what));
                }
            }
        }
        due("beyond", real.beyond(), model.beyond());
        for (int i = 0; i < model.now.told.size(); i++) {
            due("span " + i, real.span(i, 0), model.span(i, 0));
            due("span " + i, real.span(i, 1), model.span(i, 1));
        }
        for (int c = 0; c < 9; c++) {
            due("size " + c, real.size(c), model.size(c));
        }
    }
}
