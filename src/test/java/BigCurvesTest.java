import java.util.ArrayList;
import java.util.List;
import java.util.Random;
import java.util.TreeSet;

/** Promises 3 to 6, 19 to 24 on great curves: places there and back, windows as all their places one by one. */
public final class BigCurvesTest {
    private static final int[][] CURVES = {
        {0, 2, 20, 20, 0}, {0, 3, 20, 20, 20}, {0, 3, 1, 20, 7}, {1, 2, 20, 0, 0}, {1, 3, 20, 0, 0},
        {2, 2, 20, 0, 0}, {2, 2, 19, 0, 0}, {2, 3, 20, 0, 0}, {2, 3, 19, 0, 0}, {2, 3, 18, 0, 0},
        {3, 2, 12, 0, 0}, {3, 2, 11, 0, 0}, {3, 3, 12, 0, 0}, {3, 3, 11, 0, 0},
        {4, 2, 20, 3, 0}, {4, 3, 20, 1, 13}, {4, 3, 7, 20, 20},
    };

    private final Random draw = new Random(20261118);
    private final CurveShelf real = new CurveShelf();
    private final Model model = new Model();
    private final Model.Curve curve;

    private BigCurvesTest(int[] c) {
        Due.is("curve", real.curve(c[0], c[1], c[2], c[3], c[4]), 0);
        model.curve(c[0], c[1], c[2], c[3], c[4]);
        curve = model.curveAt(0);
        real.shelf(0, 0);
        model.shelf(0, 0);
    }

    public static void main(String[] args) {
        for (int[] c : CURVES) {
            BigCurvesTest test = new BigCurvesTest(c);
            test.thereAndBack();
            test.neighbours();
            for (int i = 0; i < 60; i++) {
                test.window();
            }
            test.wholeCurve();
        }
        Due.end();
    }

    private void thereAndBack() {
        for (int i = 0; i < 200; i++) {
            int[] at = new int[3];
            for (int a = 0; a < 3; a++) {
                int can = curve.can(a);
                at[a] = i == 0 ? 0 : i == 1 ? can - 1 : draw.nextInt(can);
            }
            long n = real.number(0, at[0], at[1], at[2]);
            Due.is("number", n, curve.number(at));
            for (int a = 0; a < 3; a++) {
                Due.is("place " + a, real.place(0, n, a), at[a]);
            }
        }
        for (long n : new long[] {0, 1, curve.size() / 2, curve.size() - 1}) {
            int x = real.place(0, n, 0);
            int y = real.place(0, n, 1);
            int z = real.place(0, n, 2);
            Due.is("the number of its place", real.number(0, x, y, z), n);
        }
        Due.is("no place", real.place(0, curve.size(), 0), -1);
        Due.is("size", real.size(0), curve.size());
    }

    private void neighbours() {
        for (int i = 0; i < 20; i++) {
            long from = (draw.nextLong() >>> 1) % (curve.size() - 10);
            long greatest = 0;
            for (long n = from; n < from + 10; n++) {
                int[] a = {real.place(0, n, 0), real.place(0, n, 1), real.place(0, n, 2)};
                int[] b = {real.place(0, n + 1, 0), real.place(0, n + 1, 1), real.place(0, n + 1, 2)};
                greatest = Math.max(greatest, Model.distance(0, a, b));
            }
            Due.is("gap from " + from, real.gap(0, from, 10), greatest);
            if (curve.kind == 2 || curve.kind == 3) {
                Due.is("a curve without gaps", greatest, 1);
            }
        }
    }

    private void window() {
        int[] lo = new int[3];
        int[] hi = new int[3];
        for (int a = 0; a < 3; a++) {
            int can = curve.can(a);
            int wide = Math.min(can, 1 + draw.nextInt(12));
            lo[a] = draw.nextInt(4) == 0 ? can - wide : draw.nextInt(3) == 0 ? 0 : draw.nextInt(can - wide + 1);
            hi[a] = lo[a] + wide - 1;
        }
        real.low(lo[0], lo[1], lo[2]);
        model.low(lo[0], lo[1], lo[2]);
        real.high(hi[0], hi[1], hi[2]);
        model.high(hi[0], hi[1], hi[2]);
        Due.is("spans", real.spans(0), model.spans(0));
        for (int i = 0; i < model.now.told.size(); i++) {
            Due.is("first of span " + i, real.span(i, 0), model.span(i, 0));
            Due.is("last of span " + i, real.span(i, 1), model.span(i, 1));
        }
        int n = 1 + draw.nextInt(5);
        Due.is("few", real.few(n), model.few(n));
        Due.is("beyond", real.beyond(), model.beyond());
        TreeSet<Long> all = Model.numbers(curve, lo, hi);
        List<Long> some = new ArrayList<>(all);
        for (int i = 0; i < 30; i++) {
            long at = some.get(draw.nextInt(some.size())) + draw.nextInt(3) - 1;
            Long next = all.higher(at);
            Due.is("jump from " + at, real.jump(0, at), next == null ? -1 : next);
        }
        int x = lo[0] + draw.nextInt(hi[0] - lo[0] + 1);
        Due.is("put", real.put(0, x % 10000, x, lo[1], hi[2], 3), model.put(0, x % 10000, x, lo[1], hi[2], 3));
        Due.is("points", real.points(0), model.points(0));
        Due.is("pages read", real.spent(2), model.spent(2));
        Due.is("nearest", real.nearest(0, x, hi[1], lo[2], 2, 3), model.nearest(0, x, hi[1], lo[2], 2, 3));
        for (int i = 0; i < 3; i++) {
            Due.is("nearest name", real.found(i, 0), model.found(i, 0));
            Due.is("nearest distance", real.found(i, 1), model.found(i, 1));
        }
    }

    private void wholeCurve() {
        real.low(0, 0, 0);
        real.high(curve.can(0) - 1, curve.can(1) - 1, curve.can(2) - 1);
        Due.is("one span", real.spans(0), 1);
        Due.is("up to the last", real.span(0, 1), curve.size() - 1);
        Due.is("none beyond", real.beyond(), 0);
        long n = curve.size() / 3;
        Due.is("to the next", real.jump(0, n), n + 1);
        real.low(0, 0, 0);
        real.high(curve.can(0) - 1, 0, 0);
        Due.is("the first of an edge", real.jump(0, -1), 0);
    }
}
