/** Promises 30 and 31. */
public final class MeansTest {
    private MeansTest() {
    }

    public static void main(String[] args) {
        mean();
        meanOfAll();
        meanRefused();
        compare();
        compareRefused();
        againstWindows();
        Due.end();
    }

    private static void is(CurveShelf x, int curve, int s, int w, int h, long windows, long spans, long above, long below) {
        String call = "mean " + curve + " " + s + " " + w + " " + h + " ";
        long[] want = {windows, spans, above, below};
        for (int what = 0; what < 4; what++) {
            Due.is(call + what, x.mean(curve, s, w, h, what), want[what]);
        }
    }

    private static void mean() {
        CurveShelf x = new CurveShelf();
        x.curve(0, 2, 4, 4, 0);
        x.curve(2, 2, 2, 0, 0);
        x.curve(3, 2, 1, 0, 0);
        // ROWS: a span for each x, but whole rows of y, which only h 16 has.
        is(x, 0, 4, 2, 3, 6, 12, 2, 1);
        is(x, 0, 4, 1, 1, 16, 16, 1, 1);
        is(x, 0, 16, 3, 16, 14, 14, 1, 1);
        is(x, 0, 16, 3, 15, 28, 84, 3, 1);
        is(x, 0, 1, 1, 1, 1, 1, 1, 1);
        // TURNING of 4 by 4, windows of 2 by 2: the four quarters 1 each, low 2, left 2, right 1, high 2, middle 3.
        is(x, 1, 4, 2, 2, 9, 14, 14, 9);
        is(x, 1, 2, 2, 2, 1, 1, 1, 1);
        // SNAIL of 3 by 3 goes up, down, up: columns are one span; rows of three are three.
        is(x, 2, 3, 1, 3, 3, 3, 1, 1);
        is(x, 2, 3, 3, 1, 3, 7, 7, 3);
        is(x, 2, 3, 1, 2, 6, 6, 1, 1);
        is(x, 2, 2, 2, 2, 1, 2, 2, 1);
    }

    private static void meanOfAll() {
        CurveShelf x = new CurveShelf();
        x.curve(2, 2, 6, 0, 0);
        x.curve(1, 2, 20, 0, 0);
        is(x, 0, 64, 64, 64, 1, 1, 1, 1);
        is(x, 1, 64, 64, 64, 1, 1, 1, 1);
        is(x, 1, 64, 1, 1, 4096, 4096, 1, 1);
        // WOVEN: of two neighbours by y every second pair is one span.
        is(x, 1, 64, 1, 2, 64 * 63, 64 * (32 + 31 * 2), 94, 63);
        x.low(1, 1, 0);
        x.high(3, 3, 0);
        x.spans(0);
        long first = x.span(0, 0);
        long next = x.jump(0, 20);
        x.mean(0, 8, 2, 2, 1);
        Due.is("told spans stay", x.span(0, 0), first);
        Due.is("so does the window", x.jump(0, 20), next);
    }

    private static void meanRefused() {
        CurveShelf x = new CurveShelf();
        x.curve(2, 2, 3, 0, 0);
        x.curve(2, 3, 3, 0, 0);
        x.curve(0, 2, 1, 7, 0);
        x.curve(0, 2, 7, 1, 0);
        x.curve(0, 2, 7, 7, 0);
        Due.is("no curve", x.mean(5, 2, 1, 1, 0), -1);
        Due.is("curve -1", x.mean(-1, 2, 1, 1, 0), -1);
        Due.is("three axes", x.mean(1, 2, 1, 1, 0), -1);
        Due.is("s 8", x.mean(0, 8, 1, 1, 0), 64);
        Due.is("s 9", x.mean(0, 9, 1, 1, 0), -1);
        Due.is("x can't be 2", x.mean(2, 3, 1, 1, 0), -1);
        Due.is("y can't be 2", x.mean(3, 3, 1, 1, 0), -1);
        Due.is("s 64", x.mean(4, 64, 1, 1, 0), 4096);
        Due.is("s 65", x.mean(4, 65, 1, 1, 0), -1);
        Due.is("s 0", x.mean(0, 0, 0, 0, 0), -1);
        Due.is("s 0", x.mean(0, 0, 1, 1, 0), -1);
        Due.is("s -1", x.mean(0, -1, 1, 1, 0), -1);
        Due.is("w 0", x.mean(0, 4, 0, 1, 0), -1);
        Due.is("w 5", x.mean(0, 4, 5, 1, 0), -1);
        Due.is("h 0", x.mean(0, 4, 1, 0, 0), -1);
        Due.is("h 5", x.mean(0, 4, 1, 5, 0), -1);
        Due.is("what 4", x.mean(0, 4, 1, 1, 4), -1);
        Due.is("what -1", x.mean(0, 4, 1, 1, -1), -1);
    }

    private static void compare() {
        CurveShelf x = new CurveShelf();
        x.curve(0, 2, 4, 4, 0);
        x.curve(2, 2, 4, 0, 0);
        x.curve(1, 2, 4, 0, 0);
        Due.is("ROWS and TURNING, 2 by 2", x.compare(0, 1, 4, 2, 2), 1);
        Due.is("the other way", x.compare(1, 0, 4, 2, 2), -1);
        Due.is("with itself", x.compare(1, 1, 4, 2, 2), 0);
        Due.is("places alone", x.compare(0, 2, 4, 1, 1), 0);
        Due.is("columns", x.compare(0, 2, 16, 1, 16), -1);
        Due.is("all", x.compare(0, 2, 16, 16, 16), 0);
        Due.is("TURNING is better than WOVEN", x.compare(1, 2, 16, 3, 3), -1);
    }

    private static void compareRefused() {
        CurveShelf x = new CurveShelf();
        x.curve(0, 2, 4, 4, 0);
        x.curve(2, 3, 4, 0, 0);
        x.curve(2, 2, 1, 0, 0);
        Due.is("no first", x.compare(3, 0, 2, 1, 1), -2);
        Due.is("no other", x.compare(0, 3, 2, 1, 1), -2);
        Due.is("first with three axes", x.compare(1, 0, 2, 1, 1), -2);
        Due.is("other with three axes", x.compare(0, 1, 2, 1, 1), -2);
        Due.is("other too small", x.compare(0, 2, 3, 1, 1), -2);
        Due.is("first too small", x.compare(2, 0, 3, 1, 1), -2);
        Due.is("w", x.compare(0, 0, 3, 4, 1), -2);
        Due.is("h", x.compare(0, 0, 3, 1, 0), -2);
        Due.is("s", x.compare(0, 0, 65, 1, 1), -2);
        Due.is("fine", x.compare(0, 2, 2, 1, 1), 0);
    }

    /** The mean once more, from spans() of every window. */
    private static void againstWindows() {
        int[][] kinds = {{0, 4, 3}, {1, 4, 0}, {2, 4, 0}, {3, 2, 0}, {4, 3, 5}};
        for (int[] kind : kinds) {
            for (int w = 1; w <= 8; w += 2) {
                for (int h = 1; h <= 8; h += 3) {
                    CurveShelf x = new CurveShelf();
                    x.curve(kind[0], 2, kind[1], kind[2], 0);
                    long spans = 0;
                    for (int i = 0; i + w <= 8; i++) {
                        for (int j = 0; j + h <= 8; j++) {
                            x.low(i, j, 0);
                            x.high(i + w - 1, j + h - 1, 0);
                            spans += x.spans(0);
                        }
                    }
                    Due.is("kind " + kind[0] + " " + w + " by " + h, x.mean(0, 8, w, h, 1), spans);
                }
            }
        }
    }
}
