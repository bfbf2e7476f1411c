/** Promises 36 to 39: the rack and the images. */
public final class RackTest {
    private RackTest() {
    }

    public static void main(String[] args) {
        lay();
        layRefused();
        ask();
        laidAsItWas();
        image();
        backBringsAll();
        backBringsOtherCurves();
        backOfFullRows();
        backLeavesOutAndImages();
        Due.end();
    }

    private static CurveShelf filled() {
        CurveShelf x = new CurveShelf();
        x.curve(0, 2, 4, 4, 0);
        x.curve(1, 3, 20, 0, 0);
        x.shelf(0, 0);
        for (int i = 0; i < 17; i++) {
            x.put(0, 100 + i, i / 16, i % 16, 0, i);
        }
        return x;
    }

    private static void asks(CurveShelf x, int k, long... want) {
        for (int as = 0; as < 6; as++) {
            Due.is("ask " + k + " " + as, x.ask(k, as), want[as]);
        }
    }

    private static void lay() {
        CurveShelf x = filled();
        Due.is("a point", x.lay(0, 0, 0, 105), true);
        asks(x, 0, 5, 5, -2, -2, -2, 0);
        Due.is("a page", x.lay(7, 1, 0, 1), true);
        asks(x, 7, -2, -2, 8, 100, -2, 1);
        Due.is("a curve", x.lay(3, 2, -99, 1), true);
        asks(x, 3, -2, -2, -2, -2, 1L << 60, 2);
        asks(x, 1, -3, -3, -3, -3, -3, -3);
        Due.is("nothing", x.lay(0, 3, -99, -99), true);
        asks(x, 0, -3, -3, -3, -3, -3, -3);
        Due.is("one for another", x.lay(7, 0, 0, 116), true);
        asks(x, 7, 16, 16, -2, -2, -2, 0);
    }

    private static void layRefused() {
        CurveShelf x = filled();
        x.lay(0, 1, 0, 0);
        Due.is("place 8", x.lay(8, 0, 0, 105), false);
        Due.is("place -1", x.lay(-1, 3, 0, 0), false);
        Due.is("what 4", x.lay(0, 4, 0, 0), false);
        Due.is("what -1", x.lay(0, -1, 0, 0), false);
        Due.is("no shelf", x.lay(0, 0, 1, 105), false);
        Due.is("no name", x.lay(0, 0, 0, 99), false);
        Due.is("no shelf", x.lay(0, 1, 1, 0), false);
        Due.is("shelf 4", x.lay(0, 1, 4, 0), false);
        Due.is("page 2", x.lay(0, 1, 0, 2), false);
        Due.is("page -1", x.lay(0, 1, 0, -1), false);
        Due.is("curve 2", x.lay(0, 2, 0, 2), false);
        Due.is("curve -1", x.lay(0, 2, 0, -1), false);
        asks(x, 0, -2, -2, 9, 36, -2, 1);
    }

    private static void ask() {
        CurveShelf x = filled();
        Due.is("place 8", x.ask(8, 0), -4);
        Due.is("place -1", x.ask(-1, 5), -4);
        Due.is("as 6 of nothing", x.ask(0, 6), -4);
        Due.is("as -1", x.ask(0, -1), -4);
        x.lay(0, 2, 0, 0);
        Due.is("as 6 of a curve", x.ask(0, 6), -4);
        Due.is("as least", x.ask(0, Integer.MIN_VALUE), -4);
    }

    private static void laidAsItWas() {
        CurveShelf x = filled();
        x.lay(0, 0, 0, 105);
        x.lay(1, 1, 0, 0);
        x.lay(2, 2, 0, 0);
        x.drop(0, 105);
        x.move(0, 100, 9, 9, 0);
        asks(x, 0, 5, 5, -2, -2, -2, 0);
        asks(x, 1, -2, -2, 9, 36, -2, 1);
        x.shelf(0, 1);
        asks(x, 0, 5, 5, -2, -2, -2, 0);
        asks(x, 1, -2, -2, 9, 36, -2, 1);
        asks(x, 2, -2, -2, -2, -2, 256, 2);
    }

    private static void image() {
        CurveShelf x = filled();
        Due.is("place 2", x.image(2), false);
        Due.is("place -1", x.image(-1), false);
        Due.is("back 0: none", x.back(0), false);
        Due.is("back 2", x.back(2), false);
        Due.is("back -1", x.back(-1), false);
        Due.is("image 1", x.image(1), true);
        Due.is("still none at 0", x.back(0), false);
        x.drop(0, 100);
        Due.is("image 0", x.image(0), true);
        x.drop(0, 101);
        Due.is("back 1", x.back(1), true);
        Due.is("17 points", x.count(0, 0), 17);
        Due.is("back 0", x.back(0), true);
        Due.is("16 points", x.count(0, 0), 16);
        Due.is("again an image 1", x.image(1), true);
        x.drop(0, 101);
        Due.is("back 1", x.back(1), true);
        Due.is("16 points", x.count(0, 0), 16);
    }

    private static void backBringsAll() {
        CurveShelf x = filled();
        x.low(0, 1, 0);
        x.high(2, 3, 0);
        x.spans(0);
        x.few(2);
        x.nearest(0, 0, 3, 0, 0, 2);
        x.lay(4, 0, 0, 103);
        x.image(0);
        for (int i = 0; i < 6; i++) {
            x.curve(1, 2, 1, 0, 0);
        }
        x.drop(0, 103);
        x.undo(0);
        x.undo(0);
        x.shelf(1, 0);
        x.shelf(0, 1);
        x.sow(0, 40, 4);
        x.low(5, 5, 0);
        x.high(9, 15, 0);
        x.spans(0);
        x.pairs(0, 1);
        x.lay(4, 3, 0, 0);
        x.lay(5, 2, 0, 0);
        Due.is("back", x.back(0), true);
        Due.is("the curves", x.size(2), 0);
        Due.is("the next is 2", x.curve(3, 2, 1, 0, 0), 2);
        Due.is("and it is that one", x.size(2), 9);
        Due.is("no shelf 1", x.count(1, 0), -1);
        Due.is("shelf 0's curve", x.count(0, 3), 0);
        Due.is("its points", x.count(0, 0), 17);
        Due.is("its pages", x.count(0, 1), 2);
        Due.is("its acts", x.count(0, 4), 6);
        Due.is("two spans told", x.span(1, 0), 33);
        Due.is("no more", x.span(2, 0), -1);
        Due.is("beyond", x.beyond(), 13);
        Due.is("the window", x.spans(0), 3);
        Due.is("its low corner", x.span(0, 0), 1);
        Due.is("found", x.found(0, 0), 103);
        Due.is("spent 0", x.spent(0), 2);
        Due.is("spent 1", x.spent(1), 5);
        Due.is("spent 2", x.spent(2), 2);
        asks(x, 4, 3, 3, -2, -2, -2, 0);
        asks(x, 5, -3, -3, -3, -3, -3, -3);
        for (int left = 5; left >= 0; left--) {
            Due.is("undo", x.undo(0), left);
        }
        Due.is("undone", x.count(0, 0), 11);
    }

    /** Two images have another curve each under the same number. */
    private static void backBringsOtherCurves() {
        CurveShelf x = new CurveShelf();
        x.image(0);
        Due.is("one with 4 places", x.curve(1, 2, 1, 0, 0), 0);
        x.shelf(0, 0);
        x.image(1);
        x.back(0);
        Due.is("no curve", x.size(0), 0);
        Due.is("no shelf", x.count(0, 0), -1);
        Due.is("one with 9", x.curve(3, 2, 1, 0, 0), 0);
        x.shelf(0, 0);
        x.image(0);
        x.back(1);
        Due.is("the first one again", x.size(0), 4);
        Due.is("on its shelf, too", x.put(0, 1, 2, 2, 0, 0), -2);
        x.back(0);
        Due.is("the other one again", x.size(0), 9);
        Due.is("on its shelf, too", x.put(0, 1, 2, 2, 0, 0), 0);
        for (int i = 1; i < 8; i++) {
            x.curve(1, 2, i, 0, 0);
        }
        x.image(1);
        x.back(1);
        Due.is("all eight", x.size(7), 1L << 14);
        Due.is("no ninth", x.curve(1, 2, 1, 0, 0), -1);
    }

    private static void backOfFullRows() {
        CurveShelf x = new CurveShelf();
        x.curve(0, 2, 8, 4, 0);
        x.shelf(0, 0);
        for (int i = 0; i < 7; i++) {
            x.sow(0, 40, i);
        }
        x.sow(0, 20, 7);
        x.high(199, 2, 0);
        Due.is("200 spans", x.spans(0), 200);
        Due.is("300 found", x.within(0, 0, 0, 0, 0, 1000), 300);
        long last = x.found(299, 0);
        x.image(0);
        x.few(1);
        x.nearest(0, 0, 0, 0, 0, 1);
        x.back(0);
        Due.is("the last span", x.span(199, 1), 199 * 16 + 2);
        Due.is("the last found", x.found(299, 0), last);
        Due.is("few of 200", x.few(199), 199);
        Due.is("the first two are one", x.span(0, 1), 16 + 2);
        Due.is("the last is still told", x.span(198, 1), 199 * 16 + 2);
        Due.is("no more", x.span(199, 0), -1);
    }

    private static void backLeavesOutAndImages() {
        CurveShelf x = filled();
        x.image(0);
        Due.is("18 bytes", x.witness(0, 0, 0, 0, 0, 1), 18);
        x.forge(3, 77);
        x.image(1);
        x.back(0);
        Due.is("OUT is as it is now", x.out(3), 77);
        Due.is("image 1 is still there", x.back(1), true);
        x.drop(0, 100);
        x.back(0);
        x.drop(0, 101);
        Due.is("an image can be used again", x.back(0), true);
        Due.is("with all its points", x.count(0, 0), 17);
        Due.is("OUT still", x.out(3), 77);
    }
}
