/** Promises 24 to 29. Curve 0 is ROWS of 16 by 16: the NUMBER of (x, y) is 16 x + y. */
public final class FindsTest {
    private FindsTest() {
    }

    public static void main(String[] args) {
        points();
        pointsReadPages();
        pointsReadWithoutFinding();
        nearest();
        nearestReads();
        nearestTies();
        nearestOfFew();
        nearestRefused();
        within();
        withinRefused();
        pairs();
        pairsOfFew();
        found();
        spent();
        Due.end();
    }

    private static void told(CurveShelf x, int reads, long... names) {
        Due.is("found", x.spent(0), names.length);
        Due.is("pages read", x.spent(2), reads);
        for (int i = 0; i < names.length; i++) {
            Due.is("name of found " + i, x.found(i, 0), names[i]);
        }
        Due.is("no more found", x.found(names.length, 0), -1);
    }

    private static void points() {
        CurveShelf x = RowsShelf.empty();
        x.put(0, 5, 2, 2, 0, 10);
        x.put(0, 3, 2, 3, 0, 20);
        x.put(0, 9, 3, 3, 0, 40);
        x.put(0, 7, 2, 2, 0, 80);
        x.low(2, 2, 0);
        x.high(2, 3, 0);
        Due.is("three in order", x.points(0), 3);
        told(x, 1, 5, 7, 3);
        Due.is("their weights", x.spent(1), 110);
        Due.is("distance", x.found(1, 1), 0);
        Due.is("no shelf", x.points(1), -1);
        Due.is("shelf -1", x.points(-1), -1);
        x.high(1, 3, 0);
        Due.is("a window of none", x.points(0), -1);
        x.high(16, 3, 0);
        Due.is("not of its curve", x.points(0), -1);
        told(x, 1, 5, 7, 3);
        x.shelf(1, 0);
        x.high(3, 3, 0);
        Due.is("an empty shelf", x.points(1), 0);
        told(x, 0);
    }

    private static void pointsReadPages() {
        // Pages 0 .. 8, 9 .. 17, 18 .. 26, 27 .. 35 and so on.
        CurveShelf x = RowsShelf.filled(60);
        Due.is("pages", x.count(0, 1), 6);
        x.low(1, 0, 0);
        x.high(1, 1, 0);
        Due.is("two", x.points(0), 2);
        told(x, 1, 16, 17);
        x.high(1, 2, 0);
        Due.is("three", x.points(0), 3);
        told(x, 2, 16, 17, 18);
        x.low(0, 0, 0);
        x.high(3, 0, 0);
        Due.is("a column", x.points(0), 4);
        told(x, 4, 0, 16, 32, 48);
    }

    private static void pointsReadWithoutFinding() {
        CurveShelf x = RowsShelf.empty();
        x.put(0, 1, 0, 5, 0, 1);
        x.put(0, 2, 4, 5, 0, 1);
        x.low(2, 7, 0);
        x.high(2, 7, 0);
        Due.is("between its first and its last", x.points(0), 0);
        told(x, 1);
        x.low(0, 4, 0);
        x.high(0, 4, 0);
        Due.is("ahead of its first", x.points(0), 0);
        told(x, 0);
        x.low(4, 6, 0);
        x.high(4, 6, 0);
        Due.is("behind its last", x.points(0), 0);
        told(x, 0);
        x.low(4, 5, 0);
        Due.is("just its last", x.points(0), 1);
        told(x, 1, 2);
    }

    private static CurveShelf star() {
        CurveShelf x = RowsShelf.empty();
        x.put(0, 1, 8, 8, 0, 1);
        x.put(0, 2, 11, 12, 0, 2);
        x.put(0, 3, 8, 14, 0, 4);
        x.put(0, 4, 2, 8, 0, 8);
        return x;
    }

    private static void nearest() {
        CurveShelf x = star();
        Due.is("by sums", x.nearest(0, 8, 8, 0, 0, 3), 3);
        told(x, 1, 1, 3, 4);
        Due.is("distance", x.found(1, 1), 6);
        Due.is("weights", x.spent(1), 13);
        Due.is("by the greatest", x.nearest(0, 8, 8, 0, 1, 2), 2);
        told(x, 1, 1, 2);
        Due.is("distance", x.found(1, 1), 4);
        Due.is("by squares", x.nearest(0, 8, 8, 0, 2, 20), 4);
        told(x, 1, 1, 2, 3, 4);
        Due.is("distance", x.found(1, 1), 25);
        Due.is("distance", x.found(3, 1), 36);
        CurveShelf y = new CurveShelf();
        y.curve(2, 3, 20, 0, 0);
        y.shelf(3, 0);
        y.put(3, 6, 1048575, 1048575, 1048575, 3);
        Due.is("in space", y.nearest(3, 0, 0, 0, 2, 1), 1);
        Due.is("far away", y.found(0, 1), 3L * 1048575 * 1048575);
        Due.is("by sums", y.nearest(3, 0, 0, 1, 0, 1), 1);
        Due.is("far away", y.found(0, 1), 3L * 1048575 - 1);
    }

    private static void nearestReads() {
        // Pages 0 .. 8 (0, 0 .. 8), 9 .. 17 (0 .. 1, 0 .. 15), 18 .. 26 (1, 2 .. 10), 27 .. 35 (1 .. 2, 0 .. 15) ..
        CurveShelf x = RowsShelf.filled(60);
        Due.is("itself", x.nearest(0, 0, 4, 0, 0, 1), 1);
        // Page 1's box holds (0, 4), too: its distance is 0, as the nearest's is.
        told(x, 2, 4);
        Due.is("three", x.nearest(0, 0, 4, 0, 0, 3), 3);
        // Page 2 is 1 away, and so is the third nearest; page 3's box begins at x 1, too.
        told(x, 4, 4, 3, 5);
        Due.is("by sums, tie by name", x.found(2, 1), 1);
        Due.is("at the far end", x.nearest(0, 15, 15, 0, 0, 1), 1);
        // Page 5 (2 .. 3, 0 .. 15) is 12 away; page 3 is 13, as 47 is; page 1 is 14.
        told(x, 2, 47);
        Due.is("its distance", x.found(0, 1), 13);
    }

    private static void nearestTies() {
        CurveShelf x = RowsShelf.empty();
        x.put(0, 9, 4, 3, 0, 1);
        x.put(0, 2, 5, 4, 0, 1);
        x.put(0, 5, 3, 4, 0, 1);
        x.put(0, 7, 4, 5, 0, 1);
        Due.is("like distances", x.nearest(0, 4, 4, 0, 2, 3), 3);
        told(x, 1, 2, 5, 7);
        Due.is("all", x.nearest(0, 4, 4, 0, 2, 4), 4);
        told(x, 1, 2, 5, 7, 9);
    }

    private static void nearestOfFew() {
        CurveShelf x = RowsShelf.empty();
        Due.is("of none", x.nearest(0, 4, 4, 0, 2, 3), 0);
        told(x, 0);
        CurveShelf y = RowsShelf.filled(60);
        Due.is("20", y.nearest(0, 0, 0, 0, 0, 20), 20);
        y.shelf(1, 0);
        y.put(1, 5, 0, 0, 0, 5);
        Due.is("one of one", y.nearest(1, 15, 15, 0, 1, 20), 1);
        told(y, 1, 5);
    }

    private static void nearestRefused() {
        CurveShelf x = star();
        x.nearest(0, 8, 8, 0, 0, 3);
        Due.is("no shelf", x.nearest(1, 8, 8, 0, 0, 3), -1);
        Due.is("shelf 4", x.nearest(4, 8, 8, 0, 0, 3), -1);
        Due.is("no place", x.nearest(0, 16, 8, 0, 0, 3), -1);
        Due.is("z", x.nearest(0, 8, 8, 1, 0, 3), -1);
        Due.is("way -1", x.nearest(0, 8, 8, 0, -1, 3), -1);
        Due.is("way 3", x.nearest(0, 8, 8, 0, 3, 3), -1);
        Due.is("n 0", x.nearest(0, 8, 8, 0, 0, 0), -1);
        Due.is("n 21", x.nearest(0, 8, 8, 0, 0, 21), -1);
        told(x, 1, 1, 3, 4);
    }

    private static void within() {
        CurveShelf x = star();
        Due.is("up to 6 by sums", x.within(0, 8, 8, 0, 0, 6), 3);
        told(x, 1, 1, 3, 4);
        Due.is("distance", x.found(2, 1), 6);
        Due.is("up to 5", x.within(0, 8, 8, 0, 0, 5), 1);
        told(x, 1, 1);
        Due.is("up to 25 by squares", x.within(0, 8, 8, 0, 2, 25), 2);
        told(x, 1, 1, 2);
        Due.is("weights", x.spent(1), 3);
        Due.is("up to 0", x.within(0, 8, 8, 0, 1, 0), 1);
        told(x, 1, 1);
        Due.is("nobody, but the box is", x.within(0, 9, 9, 0, 1, 0), 0);
        told(x, 1);
        Due.is("not even the box", x.within(0, 0, 0, 0, 1, 7), 0);
        told(x, 0);
        Due.is("just the box", x.within(0, 0, 7, 0, 1, 2), 1);
        told(x, 1, 4);
        Due.is("all", x.within(0, 0, 0, 0, 2, Integer.MAX_VALUE), 4);
        CurveShelf y = RowsShelf.filled(200);
        Due.is("more than twenty", y.within(0, 0, 0, 0, 0, 1000), 200);
        Due.is("all pages", y.spent(2), y.count(0, 1));
        Due.is("the last", y.found(199, 1), 11 + 15);
        Due.is("some pages", y.within(0, 0, 0, 0, 1, 0), 1);
        // Only 0 .. 8 and 9 .. 17 have boxes with (0, 0).
        told(y, 2, 0);
    }

    private static void withinRefused() {
        CurveShelf x = star();
        x.within(0, 8, 8, 0, 0, 6);
        Due.is("no shelf", x.within(1, 8, 8, 0, 0, 6), -1);
        Due.is("no place", x.within(0, 8, -1, 0, 0, 6), -1);
        Due.is("z", x.within(0, 8, 8, -1, 0, 6), -1);
        Due.is("way 3", x.within(0, 8, 8, 0, 3, 6), -1);
        Due.is("way -1", x.within(0, 8, 8, 0, -1, 6), -1);
        Due.is("distance -1", x.within(0, 8, 8, 0, 0, -1), -1);
        Due.is("distance least", x.within(0, 8, 8, 0, 0, Integer.MIN_VALUE), -1);
        told(x, 1, 1, 3, 4);
    }

    private static void pairs() {
        CurveShelf x = star();
        Due.is("by sums", x.pairs(0, 0), 2);
        told(x, 1, 2, 3);
        Due.is("distance", x.found(0, 1), 5);
        Due.is("of both", x.found(1, 1), 5);
        Due.is("weights", x.spent(1), 6);
        Due.is("by the greatest", x.pairs(0, 1), 2);
        told(x, 1, 2, 3);
        Due.is("distance", x.found(0, 1), 3);
        Due.is("by squares", x.pairs(0, 2), 2);
        Due.is("distance", x.found(0, 1), 13);
        Due.is("no shelf", x.pairs(1, 0), -1);
        Due.is("way 3", x.pairs(0, 3), -1);
        Due.is("way -1", x.pairs(0, -1), -1);
        told(x, 1, 2, 3);
        // Like ones: the least lesser name, then the least other one.
        CurveShelf y = RowsShelf.empty();
        y.put(0, 8, 0, 0, 0, 1);
        y.put(0, 5, 0, 1, 0, 1);
        y.put(0, 9, 0, 2, 0, 1);
        y.put(0, 2, 0, 9, 0, 1);
        y.put(0, 7, 0, 10, 0, 1);
        y.put(0, 6, 0, 8, 0, 1);
        Due.is("likes", y.pairs(0, 2), 2);
        told(y, 1, 2, 6);
        y.drop(0, 2);
        y.pairs(0, 0);
        told(y, 1, 5, 8);
        y.put(0, 300, 0, 10, 0, 1);
        y.pairs(0, 1);
        told(y, 1, 7, 300);
        Due.is("one place for two", y.found(0, 1), 0);
        CurveShelf many = RowsShelf.filled(60);
        Due.is("many", many.pairs(0, 2), 2);
        told(many, 6, 0, 1);
    }

    private static void pairsOfFew() {
        CurveShelf x = RowsShelf.empty();
        x.put(0, 4, 1, 1, 0, 5);
        x.nearest(0, 0, 0, 0, 0, 1);
        Due.is("of one", x.pairs(0, 0), 0);
        told(x, 1);
        Due.is("no weights", x.spent(1), 0);
        x.drop(0, 4);
        Due.is("of none", x.pairs(0, 0), 0);
        told(x, 0);
    }

    private static void found() {
        CurveShelf x = star();
        Due.is("nothing yet", x.found(0, 0), -1);
        x.nearest(0, 8, 8, 0, 0, 2);
        Due.is("name", x.found(1, 0), 3);
        Due.is("distance", x.found(1, 1), 6);
        Due.is("i 2", x.found(2, 0), -1);
        Due.is("i -1", x.found(-1, 0), -1);
        Due.is("what 2", x.found(0, 2), -1);
        Due.is("what -1", x.found(0, -1), -1);
        x.drop(0, 3);
        Due.is("found stays found", x.found(1, 0), 3);
    }

    private static void spent() {
        CurveShelf x = star();
        for (int what = 0; what < 3; what++) {
            Due.is("ahead of any", x.spent(what), 0);
        }
        Due.is("what 3", x.spent(3), -1);
        Due.is("what -1", x.spent(-1), -1);
        x.nearest(0, 8, 8, 0, 0, 2);
        int[] of = {2, 5, 1};
        for (int what = 0; what < 3; what++) {
            Due.is("spent " + what, x.spent(what), of[what]);
        }
        x.witness(0, 0, 0, 0, 0, 4);
        x.drop(0, 3);
        x.nearest(0, 8, 8, 0, 0, 0);
        for (int what = 0; what < 3; what++) {
            Due.is("still " + what, x.spent(what), of[what]);
        }
    }
}
