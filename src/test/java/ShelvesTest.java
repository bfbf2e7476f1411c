/** Promises 7 to 16. Curve 0 is ROWS of 16 by 16, so that the NUMBER of (x, y) is 16 x + y. */
public final class ShelvesTest {
    private ShelvesTest() {
    }

    public static void main(String[] args) {
        shelf();
        put();
        putRefused();
        pagesPart();
        fullShelf();
        drop();
        pagesMelt();
        meltBehindFirst();
        emptyPageGoes();
        move();
        sow();
        sowInSpace();
        sowRefused();
        findAndAt();
        countAndPage();
        undo();
        undoBringsPagesBack();
        Due.end();
    }

    private static void pages(CurveShelf x, int... sizes) {
        Due.is("pages", x.count(0, 1), sizes.length);
        for (int k = 0; k < sizes.length; k++) {
            Due.is("points of page " + k, x.page(0, k, 0), sizes[k]);
        }
    }

    private static void shelf() {
        CurveShelf x = new CurveShelf();
        Due.is("without a curve", x.shelf(0, 0), false);
        x.curve(0, 2, 4, 4, 0);
        x.curve(2, 3, 2, 0, 0);
        Due.is("shelf 0", x.shelf(0, 0), true);
        Due.is("shelf 3", x.shelf(3, 1), true);
        Due.is("shelf 4", x.shelf(4, 0), false);
        Due.is("shelf -1", x.shelf(-1, 0), false);
        Due.is("curve 2", x.shelf(1, 2), false);
        Due.is("curve -1", x.shelf(1, -1), false);
        Due.is("shelf 1 is not there", x.count(1, 0), -1);
        Due.is("shelf 3 is, with its curve", x.count(3, 3), 1);
        x.put(0, 1, 2, 3, 0, 4);
        x.put(0, 2, 2, 3, 0, 4);
        Due.is("a refused shelf stays", x.shelf(0, 2), false);
        Due.is("with its points", x.count(0, 0), 2);
        Due.is("anew", x.shelf(0, 1), true);
        Due.is("without points", x.count(0, 0), 0);
        Due.is("without pages", x.count(0, 1), 0);
        Due.is("with the curve", x.count(0, 3), 1);
        Due.is("with nothing to take back", x.count(0, 4), 0);
        Due.is("so it can't", x.undo(0), -1);
    }

    private static void put() {
        CurveShelf x = RowsShelf.empty();
        Due.is("the first", x.put(0, 5, 1, 1, 0, 7), 0);
        Due.is("ahead of it", x.put(0, 9, 0, 15, 0, 0), 0);
        Due.is("a like number, a lesser name", x.put(0, 4, 1, 1, 0, 1000), 0);
        Due.is("the least name", x.put(0, 0, 15, 15, 0, 1), 0);
        Due.is("the greatest name", x.put(0, 9999, 0, 0, 0, 1), 0);
        int[] names = {9999, 9, 4, 5, 0};
        for (int i = 0; i < names.length; i++) {
            Due.is("name of " + i, x.at(0, i, 0), names[i]);
        }
        Due.is("acts", x.count(0, 4), 5);
    }

    private static void putRefused() {
        CurveShelf x = RowsShelf.empty();
        x.put(0, 1, 1, 1, 0, 1);
        Due.is("no shelf", x.put(1, 1, 1, 1, 0, 1), -1);
        Due.is("shelf -1", x.put(-1, 1, 1, 1, 0, 1), -1);
        Due.is("shelf 4", x.put(4, 2, 1, 1, 0, 1), -1);
        Due.is("no shelf is told first", x.put(1, -1, 99, 1, 0, 1), -1);
        Due.is("name -1", x.put(0, -1, 1, 1, 0, 1), -2);
        Due.is("name 10000", x.put(0, 10000, 1, 1, 0, 1), -2);
        Due.is("x 16", x.put(0, 2, 16, 1, 0, 1), -2);
        Due.is("y -1", x.put(0, 2, 1, -1, 0, 1), -2);
        Due.is("z 1", x.put(0, 2, 1, 1, 1, 1), -2);
        Due.is("weight -1", x.put(0, 2, 1, 1, 0, -1), -2);
        Due.is("weight 1001", x.put(0, 2, 1, 1, 0, 1001), -2);
        Due.is("the name is there", x.put(0, 1, 2, 2, 0, 2), -5);
        Due.is("what can't be is told ahead of it", x.put(0, 1, 2, 2, 0, 1001), -2);
        Due.is("nothing came", x.count(0, 0), 1);
        Due.is("no act was done", x.count(0, 4), 1);
        Due.is("the point is as it was", x.at(0, 0, 1), 1);
    }

    private static void pagesPart() {
        CurveShelf x = RowsShelf.filled(16);
        pages(x, 16);
        Due.is("the 17th is in the new page", x.put(0, 16, 1, 0, 0, 0), 1);
        pages(x, 9, 8);
        Due.is("number 8 is the last of the first page", x.at(0, 8, 5), 0);
        Due.is("number 9 the first of the second", x.at(0, 9, 5), 1);
        // Between the pages: the last page whose first is ahead of it.
        Due.is("between two pages", x.put(0, 100, 0, 8, 0, 0), 0);
        pages(x, 10, 8);
        Due.is("right behind the second's first", x.put(0, 101, 0, 9, 0, 0), 1);
        pages(x, 10, 9);
        CurveShelf y = RowsShelf.filled(16);
        Due.is("the 17th at the head", y.put(0, 99, 0, 0, 0, 0), 0);
        pages(y, 9, 8);
        CurveShelf low = RowsShelf.filled(16);
        Due.is("it becomes the ninth", low.put(0, 99, 0, 7, 0, 0), 0);
        Due.is("in order", low.find(0, 99), 8);
        CurveShelf high = RowsShelf.filled(16);
        Due.is("it becomes the tenth", high.put(0, 99, 0, 8, 0, 0), 1);
        Due.is("in order", high.find(0, 99), 9);
        CurveShelf three = RowsShelf.filled(25);
        pages(three, 9, 16);
        Due.is("the second page parts", three.put(0, 25, 1, 9, 0, 0), 2);
        pages(three, 9, 9, 8);
        Due.is("ahead of all", rowsFrom(17).put(0, 500, 0, 0, 0, 0), 0);
    }

    /** 17 points from number 1 on. */
    private static CurveShelf rowsFrom(int n) {
        CurveShelf x = RowsShelf.empty();
        for (int i = 1; i <= n; i++) {
            x.put(0, i, i / 16, i % 16, 0, 0);
        }
        return x;
    }

    private static void fullShelf() {
        CurveShelf x = RowsShelf.empty();
        for (int i = 0; i < 7; i++) {
            x.sow(0, 40, i);
        }
        Due.is("280 and 19", x.sow(0, 19, 7), 299);
        Due.is("two more would be too many", x.sow(0, 2, 7), -6);
        Due.is("the 300th", x.put(0, 299, 0, 0, 0, 0) >= 0, true);
        Due.is("the 301st", x.put(0, 300, 0, 0, 0, 0), -6);
        Due.is("a name that is there is told first", x.put(0, 299, 0, 0, 0, 0), -5);
        Due.is("sow one", x.sow(0, 1, 7), -6);
        Due.is("move goes", x.move(0, 299, 15, 15, 0) >= 0, true);
        Due.is("points", x.count(0, 0), 300);
        Due.is("drop", x.drop(0, 17), 299);
        Due.is("sow takes the free name", x.sow(0, 1, 3), 300);
        Due.is("it is there", x.find(0, 17) >= 0, true);
    }

    private static void drop() {
        CurveShelf x = RowsShelf.filled(3);
        Due.is("no shelf", x.drop(1, 0), -1);
        Due.is("shelf -1", x.drop(-1, 0), -1);
        Due.is("no name", x.drop(0, 3), -1);
        Due.is("name -1", x.drop(0, -1), -1);
        Due.is("no act", x.count(0, 4), 3);
        Due.is("two left", x.drop(0, 1), 2);
        Due.is("in order", x.at(0, 1, 0), 2);
        Due.is("one left", x.drop(0, 0), 1);
        Due.is("none left", x.drop(0, 2), 0);
        pages(x);
        Due.is("no such name any more", x.drop(0, 2), -1);
        Due.is("it can come again", x.put(0, 2, 3, 3, 0, 3), 0);
        pages(x, 1);
    }

    private static void pagesMelt() {
        // 9 and 8: from the second page six go, and 9 + 2 is above 10; the seventh makes them melt.
        CurveShelf x = RowsShelf.filled(17);
        for (int i = 16; i > 10; i--) {
            x.drop(0, i);
        }
        pages(x, 9, 2);
        Due.is("drop", x.drop(0, 9), 10);
        pages(x, 10);
        // Likewise from the first page.
        CurveShelf y = RowsShelf.filled(17);
        for (int i = 0; i < 6; i++) {
            y.drop(0, i);
        }
        pages(y, 3, 8);
        y.drop(0, 6);
        pages(y, 10);
        Due.is("the first page's points are ahead", y.at(0, 0, 0), 7);
    }

    private static void meltBehindFirst() {
        // 9, 9, 8 become 8, 3, 8; one less in the middle and both neighbours would do: that behind it melts.
        CurveShelf x = RowsShelf.filled(26);
        x.drop(0, 0);
        for (int i = 9; i < 15; i++) {
            x.drop(0, i);
        }
        pages(x, 8, 3, 8);
        x.drop(0, 15);
        pages(x, 8, 10);
        // 9, 9, 8 become 8, 3, 9: the one behind would be too many, the one ahead does.
        CurveShelf y = RowsShelf.filled(27);
        pages(y, 9, 9, 9);
        y.drop(0, 0);
        for (int i = 9; i < 15; i++) {
            y.drop(0, i);
        }
        pages(y, 8, 3, 9);
        y.drop(0, 15);
        pages(y, 10, 9);
    }

    private static void emptyPageGoes() {
        // 16 and 16 with a page of one between them.
        CurveShelf x = RowsShelf.filled(26);
        for (int i = 0; i < 7; i++) {
            x.put(0, 100 + i, 0, 0, 0, 0);
            x.put(0, 200 + i, 15, 15, 0, 0);
        }
        pages(x, 16, 9, 15);
        for (int i = 9; i < 17; i++) {
            x.drop(0, i);
        }
        pages(x, 16, 1, 15);
        x.drop(0, 17);
        pages(x, 16, 15);
    }

    private static void move() {
        CurveShelf x = RowsShelf.filled(17);
        Due.is("no shelf", x.move(2, 0, 1, 1, 0), -1);
        Due.is("no name", x.move(0, 17, 1, 1, 0), -1);
        Due.is("no name is told first", x.move(0, 17, 16, 1, 0), -1);
        Due.is("no place", x.move(0, 3, 16, 1, 0), -2);
        Due.is("z", x.move(0, 3, 1, 1, 1), -2);
        Due.is("no act", x.count(0, 4), 6);
        Due.is("to the end", x.move(0, 3, 15, 15, 0), 1);
        pages(x, 8, 9);
        Due.is("it is the last", x.find(0, 3), 16);
        Due.is("x", x.at(0, 16, 1), 15);
        Due.is("y", x.at(0, 16, 2), 15);
        Due.is("its weight came along", x.at(0, 16, 4), 3);
        Due.is("one act", x.undo(0), 5);
        Due.is("it is back", x.find(0, 3), 3);
        // It goes first: the page of 16 that it leaves does not part when it comes again.
        CurveShelf full = RowsShelf.filled(16);
        Due.is("on a full page", full.move(0, 0, 15, 0, 0), 0);
        pages(full, 16);
        CurveShelf alone = RowsShelf.filled(1);
        Due.is("the only one", alone.move(0, 0, 3, 3, 0), 0);
        pages(alone, 1);
        Due.is("to where it is", alone.move(0, 0, 3, 3, 0), 0);
        Due.is("is an act, too", alone.count(0, 4), 3);
        // 9 and 2: one goes from the second, they melt, and it comes to the one page.
        CurveShelf melt = RowsShelf.filled(17);
        for (int i = 16; i > 10; i--) {
            melt.drop(0, i);
        }
        Due.is("melts on the way", melt.move(0, 10, 15, 15, 0), 0);
        pages(melt, 11);
    }

    private static void sow() {
        CurveShelf x = RowsShelf.empty();
        x.put(0, 1, 0, 0, 0, 0);
        Due.is("two come", x.sow(0, 2, 1), 3);
        // From 1: 1103527590, 2524885223, 662824084, 3295386429 as wholes; >>> 8, then % 16 and % 101.
        long g = 1;
        int[] drawn = new int[6];
        for (int i = 0; i < 6; i++) {
            g = (1103515245L * g + 12345L) & 0xffffffffL;
            drawn[i] = (int) ((g >> 8) % (i % 3 == 2 ? 101 : 16));
        }
        Due.is("the first draw by hand", drawn[0], 1103527590L / 256 % 16);
        int first = x.find(0, 0);
        int second = x.find(0, 2);
        Due.is("name 0 came first: x", x.at(0, first, 1), drawn[0]);
        Due.is("y", x.at(0, first, 2), drawn[1]);
        Due.is("z", x.at(0, first, 3), 0);
        Due.is("weight", x.at(0, first, 4), drawn[2]);
        Due.is("then name 2: x", x.at(0, second, 1), drawn[3]);
        Due.is("y", x.at(0, second, 2), drawn[4]);
        Due.is("weight", x.at(0, second, 4), drawn[5]);
        Due.is("one act", x.undo(0), 1);
        Due.is("both are gone", x.count(0, 0), 1);
        Due.is("a seed below 0", x.sow(0, 40, -77), 41);
        Due.is("names up to 40", x.find(0, 40) >= 0, true);
        Due.is("and no more", x.find(0, 41), -1);
    }

    private static void sowInSpace() {
        CurveShelf x = new CurveShelf();
        x.curve(3, 3, 2, 0, 0);
        x.shelf(1, 0);
        Due.is("one in space", x.sow(1, 1, -5), 1);
        int g = -5;
        int[] can = {9, 9, 9, 101};
        for (int i = 0; i < 4; i++) {
            g = 1103515245 * g + 12345;
            Due.is("drawn " + i, x.at(1, 0, i + 1), (g >>> 8) % can[i]);
        }
    }

    private static void sowRefused() {
        CurveShelf x = RowsShelf.empty();
        Due.is("no shelf", x.sow(1, 1, 1), -1);
        Due.is("no shelf is told first", x.sow(1, 0, 1), -1);
        Due.is("n 0", x.sow(0, 0, 1), -2);
        Due.is("n 41", x.sow(0, 41, 1), -2);
        Due.is("n -1", x.sow(0, -1, 1), -2);
        Due.is("n least", x.sow(0, Integer.MIN_VALUE, 1), -2);
        Due.is("n 40", x.sow(0, 40, 1), 40);
        Due.is("one act", x.count(0, 4), 1);
        for (int i = 0; i < 6; i++) {
            x.sow(0, 40, i);
        }
        Due.is("280 and 21", x.sow(0, 21, 1), -6);
        Due.is("n is told first", x.sow(0, 41, 1), -2);
        Due.is("280 and 20", x.sow(0, 20, 1), 300);
    }

    private static void findAndAt() {
        CurveShelf x = RowsShelf.empty();
        x.put(0, 7, 9, 3, 0, 11);
        x.put(0, 3, 2, 5, 0, 12);
        Due.is("find", x.find(0, 7), 1);
        Due.is("find", x.find(0, 3), 0);
        Due.is("no name", x.find(0, 4), -1);
        Due.is("name -1", x.find(0, -1), -1);
        Due.is("no shelf", x.find(1, 7), -1);
        Due.is("shelf 9", x.find(9, 7), -1);
        int[] of = {7, 9, 3, 0, 11, 0};
        for (int what = 0; what < 6; what++) {
            Due.is("at 1 " + what, x.at(0, 1, what), of[what]);
        }
        Due.is("what 6", x.at(0, 1, 6), -1);
        Due.is("what -1", x.at(0, 1, -1), -1);
        Due.is("i 2", x.at(0, 2, 0), -1);
        Due.is("i -1", x.at(0, -1, 0), -1);
        Due.is("no shelf", x.at(1, 0, 0), -1);
        Due.is("shelf -1", x.at(-1, 0, 0), -1);
    }

    private static void countAndPage() {
        CurveShelf x = RowsShelf.filled(17);
        int[] counts = {17, 2, 136, 0, 6};
        for (int what = 0; what < 5; what++) {
            Due.is("count " + what, x.count(0, what), counts[what]);
        }
        Due.is("count 5", x.count(0, 5), -1);
        Due.is("count -1", x.count(0, -1), -1);
        Due.is("no shelf", x.count(1, 0), -1);
        // Page 1 has the numbers 9 .. 16: (0, 9) .. (0, 15) and (1, 0).
        int[] of = {8, 100, 0, 0, 0, 1, 15, 0, 9};
        for (int what = 0; what < 9; what++) {
            Due.is("page 1 " + what, x.page(0, 1, what), of[what]);
        }
        int[] head = {9, 36, 0, 0, 0, 0, 8, 0, 0};
        for (int what = 0; what < 9; what++) {
            Due.is("page 0 " + what, x.page(0, 0, what), head[what]);
        }
        Due.is("what 9", x.page(0, 1, 9), -1);
        Due.is("what -1", x.page(0, 1, -1), -1);
        Due.is("page 2", x.page(0, 2, 0), -1);
        Due.is("page -1", x.page(0, -1, 0), -1);
        Due.is("no shelf", x.page(1, 0, 0), -1);
        CurveShelf y = new CurveShelf();
        y.curve(1, 3, 4, 0, 0);
        y.shelf(2, 0);
        y.put(2, 1, 3, 9, 5, 1);
        y.put(2, 2, 8, 2, 11, 2);
        int[] box = {3, 2, 5, 8, 9, 11};
        for (int i = 0; i < 6; i++) {
            Due.is("box " + i, y.page(2, 0, i + 2), box[i]);
        }
    }

    private static void undo() {
        CurveShelf x = RowsShelf.empty();
        Due.is("nothing to take back", x.undo(0), -1);
        Due.is("no shelf", x.undo(1), -1);
        Due.is("shelf -1", x.undo(-1), -1);
        for (int i = 0; i < 8; i++) {
            x.put(0, i, i, i, 0, i);
            Due.is("acts after " + i, x.count(0, 4), Math.min(6, i + 1));
        }
        x.put(0, 0, 1, 1, 0, 1);
        x.drop(0, 77);
        x.move(0, 77, 1, 1, 0);
        Due.is("refused ones are none", x.count(0, 4), 6);
        for (int left = 5; left >= 0; left--) {
            Due.is("left", x.undo(0), left);
            Due.is("acts", x.count(0, 4), left);
            Due.is("points", x.count(0, 0), 2 + left);
        }
        Due.is("no seventh", x.undo(0), -1);
        Due.is("two stay", x.count(0, 0), 2);
        x.drop(0, 0);
        x.move(0, 1, 9, 9, 0);
        x.sow(0, 5, 5);
        Due.is("three again", x.count(0, 4), 3);
        Due.is("sow back", x.undo(0), 2);
        Due.is("points", x.count(0, 0), 1);
        Due.is("move back", x.undo(0), 1);
        Due.is("its x", x.at(0, 0, 1), 1);
        Due.is("drop back", x.undo(0), 0);
        Due.is("points", x.count(0, 0), 2);
        Due.is("the dropped one's weight", x.at(0, 0, 4), 0);
        // Another shelf has its own acts.
        x.shelf(3, 0);
        x.put(3, 1, 1, 1, 0, 1);
        Due.is("shelf 0 has none", x.undo(0), -1);
        Due.is("shelf 3 has one", x.undo(3), 0);
    }

    private static void undoBringsPagesBack() {
        CurveShelf x = RowsShelf.filled(17);
        for (int i = 16; i > 10; i--) {
            x.drop(0, i);
        }
        x.drop(0, 10);
        pages(x, 10);
        x.undo(0);
        pages(x, 9, 2);
        x.undo(0);
        pages(x, 9, 3);
        CurveShelf y = RowsShelf.filled(17);
        y.undo(0);
        pages(y, 16);
        Due.is("and again", y.put(0, 16, 1, 0, 0, 0), 1);
    }
}
