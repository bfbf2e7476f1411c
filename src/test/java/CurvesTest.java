/** Promises 1 to 6, with answers worked out by hand from the document. */
public final class CurvesTest {
    private CurvesTest() {
    }

    public static void main(String[] args) {
        newObject();
        curve();
        manyCurves();
        numberOfRows();
        numberOfWovenAndMixed();
        numberOfTurning();
        numberOfSnail();
        numberRefused();
        place();
        size();
        gap();
        Due.end();
    }

    private static void newObject() {
        CurveShelf x = new CurveShelf();
        for (int i = -1; i <= 8; i++) {
            Due.is("new: size " + i, x.size(i), 0);
            Due.is("new: number " + i, x.number(i, 0, 0, 0), -1);
            Due.is("new: shelf count " + i, x.count(i, 0), -1);
            Due.is("new: out " + i, x.out(i), -1);
            Due.is("new: span " + i, x.span(i, 0), -1);
            Due.is("new: found " + i, x.found(i, 0), -1);
        }
        for (int k = 0; k < 8; k++) {
            for (int as = 0; as <= 5; as++) {
                Due.is("new: ask " + k + " " + as, x.ask(k, as), -3);
            }
        }
        for (int what = 0; what < 3; what++) {
            Due.is("new: spent " + what, x.spent(what), 0);
        }
        Due.is("new: beyond", x.beyond(), 0);
        Due.is("new: few", x.few(1), 0);
        Due.is("new: back 0", x.back(0), false);
        Due.is("new: back 1", x.back(1), false);
        Due.is("new: the first curve", x.curve(0, 2, 3, 3, 0), 0);
        Due.is("new: the window is 0 0 0 to 0 0 0", x.spans(0), 1);
        Due.is("new: its first", x.span(0, 0), 0);
        Due.is("new: its last", x.span(0, 1), 0);
        Due.is("NONE", CurveShelf.NONE, -1);
    }

    private static void refused(int kind, int d, int a, int b, int c) {
        CurveShelf x = new CurveShelf();
        Due.is("curve " + kind + " " + d + " " + a + " " + b + " " + c, x.curve(kind, d, a, b, c), -1);
        Due.is("curve after a refused one", x.curve(1, 2, 1, 0, 0), 0);
        Due.is("size after a refused one", x.size(0), 4);
        Due.is("no second one", x.size(1), 0);
    }

    private static void made(int kind, int d, int a, int b, int c, long size) {
        CurveShelf x = new CurveShelf();
        String call = "curve " + kind + " " + d + " " + a + " " + b + " " + c;
        Due.is(call, x.curve(kind, d, a, b, c), 0);
        Due.is("size of " + call, x.size(0), size);
    }

    private static void curve() {
        for (int kind = 0; kind <= 4; kind += 4) {
            made(kind, 2, 1, 20, 0, 1L << 21);
            made(kind, 2, 20, 1, 0, 1L << 21);
            made(kind, 3, 20, 20, 20, 1L << 60);
            made(kind, 3, 2, 1, 3, 64);
            refused(kind, 2, 0, 1, 0);
            refused(kind, 2, 1, 0, 0);
            refused(kind, 2, 21, 1, 0);
            refused(kind, 2, 1, 21, 0);
            refused(kind, 2, 1, 1, 1);
            refused(kind, 3, 1, 1, 0);
            refused(kind, 3, 1, 1, 21);
            refused(kind, 3, 1, 1, -1);
            refused(kind, 2, 1, 1, -1);
        }
        for (int kind = 1; kind <= 2; kind++) {
            made(kind, 2, 1, 0, 0, 4);
            made(kind, 2, 20, 0, 0, 1L << 40);
            made(kind, 3, 20, 0, 0, 1L << 60);
            refused(kind, 2, 0, 0, 0);
            refused(kind, 2, 21, 0, 0);
        }
        made(3, 2, 1, 0, 0, 9);
        made(3, 2, 12, 0, 0, 282429536481L);
        made(3, 3, 12, 0, 0, 150094635296999121L);
        refused(3, 2, 0, 0, 0);
        refused(3, 2, 13, 0, 0);
        for (int kind = 1; kind <= 3; kind++) {
            refused(kind, 2, 3, 3, 0);
            refused(kind, 3, 3, 0, 3);
            refused(kind, 3, 3, 3, 3);
            refused(kind, 1, 3, 0, 0);
            refused(kind, 4, 3, 0, 0);
            refused(kind, 2, -1, 0, 0);
        }
        refused(-1, 2, 3, 3, 0);
        refused(5, 2, 3, 0, 0);
        refused(Integer.MIN_VALUE, 2, 3, 0, 0);
        refused(2, Integer.MAX_VALUE, 3, 0, 0);
        refused(2, 2, Integer.MAX_VALUE, 0, 0);
    }

    private static void manyCurves() {
        CurveShelf x = new CurveShelf();
        for (int i = 0; i < 8; i++) {
            Due.is("curve " + i, x.curve(1, 2, 1 + i, 0, 0), i);
        }
        Due.is("a ninth", x.curve(1, 2, 1, 0, 0), -1);
        for (int i = 0; i < 8; i++) {
            Due.is("size " + i, x.size(i), 4L << 2 * i);
        }
    }

    private static CurveShelf with(int kind, int d, int a, int b, int c) {
        CurveShelf x = new CurveShelf();
        Due.is("with curve " + kind, x.curve(kind, d, a, b, c), 0);
        return x;
    }

    private static void isAt(CurveShelf x, int px, int py, int pz, long n) {
        Due.is("number " + px + " " + py + " " + pz, x.number(0, px, py, pz), n);
        Due.is("place 0 of " + n, x.place(0, n, 0), px);
        Due.is("place 1 of " + n, x.place(0, n, 1), py);
        Due.is("place 2 of " + n, x.place(0, n, 2), pz);
    }

    private static void numberOfRows() {
        CurveShelf flat = with(0, 2, 2, 3, 0);
        isAt(flat, 0, 0, 0, 0);
        isAt(flat, 0, 7, 0, 7);
        isAt(flat, 2, 5, 0, 21);
        isAt(flat, 3, 7, 0, 31);
        CurveShelf deep = with(0, 3, 1, 2, 3);
        isAt(deep, 0, 0, 7, 7);
        isAt(deep, 0, 3, 1, 25);
        isAt(deep, 1, 2, 5, 53);
        isAt(deep, 1, 3, 7, 63);
    }

    private static void numberOfWovenAndMixed() {
        CurveShelf woven = with(1, 2, 3, 0, 0);
        isAt(woven, 5, 3, 0, 0b100111);
        isAt(woven, 0, 7, 0, 0b010101);
        CurveShelf deep = with(1, 3, 2, 0, 0);
        isAt(deep, 2, 1, 3, 0b101011);
        CurveShelf same = with(4, 2, 3, 3, 0);
        isAt(same, 5, 3, 0, 0b100111);
        // y has two bits more than x: y4 y3 y2, then x1 y1, x0 y0.
        CurveShelf mixed = with(4, 2, 2, 5, 0);
        isAt(mixed, 2, 0b10110, 0, 0b1011100);
        isAt(mixed, 1, 0b01001, 0, 0b0100011);
        // z2, x1 z1, x0 y0 z0.
        CurveShelf three = with(4, 3, 2, 1, 3);
        isAt(three, 1, 0, 0, 4);
        isAt(three, 2, 0, 0, 16);
        isAt(three, 0, 1, 0, 2);
        isAt(three, 0, 0, 6, 0b101000);
    }

    private static void numberOfTurning() {
        CurveShelf one = with(2, 2, 1, 0, 0);
        isAt(one, 0, 0, 0, 0);
        isAt(one, 1, 0, 0, 1);
        isAt(one, 1, 1, 0, 2);
        isAt(one, 0, 1, 0, 3);
        // One level more, and the first quarter is gone through y first.
        CurveShelf two = with(2, 2, 2, 0, 0);
        int[][] way = {{0, 0}, {0, 1}, {1, 1}, {1, 0}, {2, 0}, {3, 0}, {3, 1}, {2, 1},
            {2, 2}, {3, 2}, {3, 3}, {2, 3}, {1, 3}, {1, 2}, {0, 2}, {0, 3}};
        for (int n = 0; n < 16; n++) {
            isAt(two, way[n][0], way[n][1], 0, n);
        }
        CurveShelf cube = with(2, 3, 1, 0, 0);
        int[][] corners = {{0, 0, 0}, {0, 1, 0}, {1, 1, 0}, {1, 0, 0}, {1, 0, 1}, {1, 1, 1}, {0, 1, 1}, {0, 0, 1}};
        for (int n = 0; n < 8; n++) {
            isAt(cube, corners[n][0], corners[n][1], corners[n][2], n);
        }
        CurveShelf two3 = with(2, 3, 2, 0, 0);
        isAt(two3, 1, 0, 0, 1);
        isAt(two3, 0, 1, 0, 7);
        isAt(two3, 3, 1, 0, 24);
        isAt(two3, 3, 0, 3, 38);
    }

    private static void numberOfSnail() {
        CurveShelf one = with(3, 2, 1, 0, 0);
        int[][] way = {{0, 0}, {0, 1}, {0, 2}, {1, 2}, {1, 1}, {1, 0}, {2, 0}, {2, 1}, {2, 2}};
        for (int n = 0; n < 9; n++) {
            isAt(one, way[n][0], way[n][1], 0, n);
        }
        // The second nine lie above the first: their y third is 1, which turns x.
        CurveShelf two = with(3, 2, 2, 0, 0);
        isAt(two, 2, 2, 0, 8);
        isAt(two, 2, 3, 0, 9);
        isAt(two, 2, 5, 0, 11);
        isAt(two, 1, 5, 0, 12);
        isAt(two, 0, 5, 0, 17);
        isAt(two, 0, 6, 0, 18);
        isAt(two, 8, 8, 0, 80);
        CurveShelf cube = with(3, 3, 1, 0, 0);
        isAt(cube, 0, 0, 2, 2);
        isAt(cube, 0, 1, 2, 3);
        isAt(cube, 0, 2, 2, 8);
        isAt(cube, 1, 2, 2, 9);
        isAt(cube, 1, 0, 0, 17);
        isAt(cube, 2, 2, 2, 26);
    }

    private static void numberRefused() {
        CurveShelf x = with(4, 3, 2, 1, 3);
        x.curve(3, 2, 1, 0, 0);
        int[][] wrong = {{-1, 0, 0}, {4, 0, 0}, {0, -1, 0}, {0, 2, 0}, {0, 0, -1}, {0, 0, 8},
            {Integer.MIN_VALUE, 0, 0}, {0, Integer.MAX_VALUE, 0}};
        for (int[] p : wrong) {
            Due.is("number of no place", x.number(0, p[0], p[1], p[2]), -1);
        }
        Due.is("number on no curve", x.number(2, 0, 0, 0), -1);
        Due.is("number on curve -1", x.number(-1, 0, 0, 0), -1);
        Due.is("z with two axes", x.number(1, 0, 0, 1), -1);
        Due.is("z below 0 with two axes", x.number(1, 0, 0, -1), -1);
        Due.is("three can't be", x.number(1, 3, 0, 0), -1);
    }

    private static void place() {
        CurveShelf x = with(2, 2, 3, 0, 0);
        Due.is("place of -1", x.place(0, -1, 0), -1);
        Due.is("place of the last", x.place(0, 63, 0), 0);
        Due.is("place of the last, y", x.place(0, 63, 1), 7);
        Due.is("place of the last, z", x.place(0, 63, 2), 0);
        Due.is("place beyond", x.place(0, 64, 0), -1);
        Due.is("place of a great one", x.place(0, Long.MAX_VALUE, 1), -1);
        Due.is("place of a small one", x.place(0, Long.MIN_VALUE, 1), -1);
        Due.is("place of one that looks like 1 as an int", x.place(0, (1L << 32) + 1, 0), -1);
        Due.is("axis 3", x.place(0, 0, 3), -1);
        Due.is("axis -1", x.place(0, 0, -1), -1);
        Due.is("curve 1", x.place(1, 0, 0), -1);
        Due.is("curve -1", x.place(-1, 0, 0), -1);
    }

    private static void size() {
        CurveShelf x = with(0, 3, 1, 2, 3);
        Due.is("size", x.size(0), 64);
        Due.is("size of -1", x.size(-1), 0);
        Due.is("size of 1", x.size(1), 0);
        Due.is("size of 8", x.size(8), 0);
        Due.is("size of the least", x.size(Integer.MIN_VALUE), 0);
        Due.is("size of the greatest", x.size(Integer.MAX_VALUE), 0);
    }

    private static void gap() {
        CurveShelf x = with(0, 2, 2, 3, 0);
        Due.is("within a row", x.gap(0, 0, 7), 1);
        Due.is("over its end: 1 by x and 7 by y", x.gap(0, 0, 8), 8);
        Due.is("only over its end", x.gap(0, 7, 1), 8);
        Due.is("behind it", x.gap(0, 8, 7), 1);
        Due.is("all", x.gap(0, 0, 31), 8);
        Due.is("one too many", x.gap(0, 0, 32), -1);
        Due.is("the last step", x.gap(0, 30, 1), 1);
        Due.is("none behind the last", x.gap(0, 31, 1), -1);
        Due.is("from beyond", x.gap(0, 32, 1), -1);
        Due.is("from the greatest", x.gap(0, Long.MAX_VALUE, 1), -1);
        Due.is("from below", x.gap(0, -1, 1), -1);
        Due.is("from the least", x.gap(0, Long.MIN_VALUE, 300), -1);
        Due.is("no steps", x.gap(0, 0, 0), -1);
        Due.is("fewer", x.gap(0, 0, -5), -1);
        Due.is("no curve", x.gap(1, 0, 1), -1);
        x.curve(1, 3, 20, 0, 0);
        // From 255, which is (3, 7, 7), to 256, which is (4, 0, 0).
        Due.is("300 steps", x.gap(1, 0, 300), 15);
        Due.is("301 steps", x.gap(1, 0, 301), -1);
        Due.is("the last 300 of many", x.gap(1, (1L << 60) - 301, 300), 15);
        Due.is("one too far", x.gap(1, (1L << 60) - 300, 300), -1);
        x.curve(2, 3, 20, 0, 0);
        Due.is("TURNING has no gaps", x.gap(2, 123456789012345L, 300), 1);
        x.curve(3, 3, 12, 0, 0);
        Due.is("SNAIL has none", x.gap(3, 12345678901234567L, 300), 1);
    }
}
