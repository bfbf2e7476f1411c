/** Promises 32 to 35. Curve 0 is ROWS of 16 by 16; points 0 .. 59 lie at the numbers 0 .. 59, in pages of 9. */
public final class WitnessTest {
    private WitnessTest() {
    }

    public static void main(String[] args) {
        witness();
        witnessOfGreatDistances();
        witnessOfManyPages();
        witnessRefused();
        out();
        forge();
        check();
        checkFindsFalseBytes();
        checkFindsMissedPages();
        checkRefused();
        checkOfNothing();
        Due.end();
    }

    private static void bytes(CurveShelf x, int... marksAndFar) {
        for (int k = 0; k < marksAndFar.length / 2; k++) {
            Due.is("mark of page " + k, x.out(9 * k), marksAndFar[2 * k]);
            for (int i = 1; i < 7; i++) {
                Due.is("high byte " + i + " of page " + k, x.out(9 * k + i), 0);
            }
            int far = x.out(9 * k + 7) * 256 + x.out(9 * k + 8);
            Due.is("far of page " + k, far, marksAndFar[2 * k + 1]);
        }
    }

    private static void witness() {
        CurveShelf x = RowsShelf.filled(60);
        // Boxes: (0, 0..8), (0..1, 0..15), (1, 2..10), (1..2, 0..15), (2, 4..12), (2..3, 0..15).
        Due.is("six pages", x.witness(0, 0, 4, 0, 2, 1), 54);
        bytes(x, 1, 0, 1, 0, 0, 1, 0, 1, 0, 4, 0, 4);
        Due.is("of three", x.witness(0, 0, 4, 0, 2, 3), 54);
        bytes(x, 1, 0, 1, 0, 1, 1, 1, 1, 0, 4, 0, 4);
        Due.is("far away", x.witness(0, 15, 15, 0, 2, 1), 54);
        // The nearest is (3, 11), 144 + 16 away: page 3's box is further.
        bytes(x, 0, 225 + 49, 0, 196, 0, 196 + 25, 0, 169, 0, 169 + 9, 1, 144);
        Due.is("none are found by it", x.spent(0), 0);
        x.shelf(1, 0);
        Due.is("an empty shelf", x.witness(1, 0, 4, 0, 2, 1), 0);
        Due.is("empties OUT", x.out(0), -1);
    }

    private static void witnessOfGreatDistances() {
        CurveShelf x = new CurveShelf();
        x.curve(1, 3, 20, 0, 0);
        x.shelf(2, 0);
        x.put(2, 1, 1048575, 1048575, 1048575, 1);
        Due.is("one page", x.witness(2, 0, 0, 0, 2, 1), 9);
        // 3 times 1048575 squared is 0x2FFFFA00003.
        int[] want = {1, 0, 0, 0x02, 0xFF, 0xFF, 0xA0, 0x00, 0x03};
        for (int i = 0; i < 9; i++) {
            Due.is("byte " + i, x.out(i), want[i]);
        }
        Due.is("it holds", x.check(2, 0, 0, 0, 2, 1), -1);
    }

    /** Thin pages between full ones: there can be many more pages than a shelf of 300 filled in a row has. */
    private static void witnessOfManyPages() {
        CurveShelf x = new CurveShelf();
        x.curve(0, 2, 4, 5, 0);
        x.shelf(0, 0);
        for (int i = 0; i < 280; i++) {
            x.put(0, i, i / 32, i % 32, 0, 1);
        }
        for (int k = 1; k < 20; k += 2) {
            for (int i = 0; i < 7; i++) {
                x.drop(0, 9 * k + i);
            }
        }
        for (int i = 280; i < 370; i++) {
            x.put(0, i, i / 32, i % 32, 0, 1);
        }
        Due.is("300 points", x.count(0, 0), 300);
        int pages = x.count(0, 1);
        Due.is("some forty pages", pages >= 40, true);
        Due.is("nine bytes for each", x.witness(0, 11, 17, 0, 2, 20), 9 * pages);
        Due.is("the last one is read", x.out(9 * pages - 9), 1);
        Due.is("it holds", x.check(0, 11, 17, 0, 2, 20), -1);
        x.forge(9 * pages - 1, -1);
        Due.is("the last one is false", x.check(0, 11, 17, 0, 2, 20), pages - 1);
    }

    private static void witnessRefused() {
        CurveShelf x = RowsShelf.filled(60);
        x.witness(0, 0, 4, 0, 2, 1);
        Due.is("no shelf", x.witness(1, 0, 4, 0, 2, 1), -1);
        Due.is("no place", x.witness(0, 0, 16, 0, 2, 1), -1);
        Due.is("z", x.witness(0, 0, 4, 1, 2, 1), -1);
        Due.is("way 3", x.witness(0, 0, 4, 0, 3, 1), -1);
        Due.is("way -1", x.witness(0, 0, 4, 0, -1, 1), -1);
        Due.is("n 0", x.witness(0, 0, 4, 0, 2, 0), -1);
        Due.is("n 21", x.witness(0, 0, 4, 0, 2, 21), -1);
        bytes(x, 1, 0, 1, 0, 0, 1, 0, 1, 0, 4, 0, 4);
        Due.is("n 20", x.witness(0, 0, 4, 0, 2, 20), 54);
    }

    private static void out() {
        CurveShelf x = RowsShelf.filled(60);
        Due.is("empty at first", x.out(0), -1);
        x.witness(0, 0, 4, 0, 2, 1);
        Due.is("the first", x.out(0), 1);
        Due.is("the last", x.out(53), 4);
        Due.is("no more", x.out(54), -1);
        Due.is("i -1", x.out(-1), -1);
        Due.is("i least", x.out(Integer.MIN_VALUE), -1);
    }

    private static void forge() {
        CurveShelf x = RowsShelf.filled(60);
        Due.is("nothing to forge", x.forge(0, 1), -1);
        x.witness(0, 0, 4, 0, 2, 1);
        Due.is("what it was", x.forge(53, 255), 4);
        Due.is("what it is", x.out(53), 255);
        Due.is("what it was", x.forge(53, 256 + 7), 255);
        Due.is("the lowest 8 bits", x.out(53), 7);
        Due.is("what it was", x.forge(53, -1), 7);
        Due.is("of -1, too", x.out(53), 255);
        Due.is("i 54", x.forge(54, 1), -1);
        Due.is("i -1", x.forge(-1, 1), -1);
    }

    private static void check() {
        CurveShelf x = RowsShelf.filled(60);
        for (int way = 0; way < 3; way++) {
            for (int n = 1; n <= 20; n++) {
                x.witness(0, 7, 4, 0, way, n);
                Due.is("a true one by " + way + " of " + n, x.check(0, 7, 4, 0, way, n), -1);
            }
        }
        x.witness(0, 0, 4, 0, 2, 3);
        Due.is("for fewer", x.check(0, 0, 4, 0, 2, 1), -1);
        Due.is("of another place", x.check(0, 0, 9, 0, 2, 3), 0);
        Due.is("nothing is found", x.spent(2), 0);
        x.witness(0, 0, 4, 0, 2, 1);
        Due.is("for more: page 2 is missed", x.check(0, 0, 4, 0, 2, 3), 2);
        x.put(0, 99, 3, 12, 0, 1);
        Due.is("the same boxes", x.check(0, 0, 4, 0, 2, 1), -1);
        x.put(0, 100, 15, 15, 0, 1);
        Due.is("a page more", x.count(0, 1), 7);
        Due.is("OUT has not nine for each", x.check(0, 0, 4, 0, 2, 1), -2);
    }

    private static void checkFindsFalseBytes() {
        CurveShelf x = RowsShelf.filled(60);
        x.witness(0, 0, 4, 0, 2, 3);
        x.forge(9 * 4, 2);
        Due.is("neither 0 nor 1", x.check(0, 0, 4, 0, 2, 3), 4);
        x.forge(9 * 4, 255);
        Due.is("nor is 255", x.check(0, 0, 4, 0, 2, 3), 4);
        x.forge(9 * 3 + 8, 9);
        Due.is("the first one, with a false distance", x.check(0, 0, 4, 0, 2, 3), 3);
        x.forge(9 * 1 + 1, 128);
        Due.is("in its highest byte", x.check(0, 0, 4, 0, 2, 3), 1);
        x.forge(0, 0);
        Due.is("ahead of what is missed", x.check(0, 0, 4, 0, 2, 3), 1);
    }

    private static void checkFindsMissedPages() {
        CurveShelf x = RowsShelf.filled(60);
        x.witness(0, 0, 4, 0, 2, 3);
        x.forge(9 * 2, 0);
        Due.is("a page as far as the third", x.check(0, 0, 4, 0, 2, 3), 2);
        x.forge(9 * 2, 1);
        x.forge(9 * 3, 0);
        Due.is("another one", x.check(0, 0, 4, 0, 2, 3), 3);
        x.forge(9 * 3, 1);
        x.forge(9 * 5, 1);
        Due.is("one more is no harm", x.check(0, 0, 4, 0, 2, 3), -1);
        for (int k = 0; k < 6; k++) {
            x.forge(9 * k, k == 0 ? 1 : 0);
        }
        Due.is("nine points are enough for nine, but page 1 is near", x.check(0, 0, 4, 0, 2, 9), 1);
        Due.is("not for ten", x.check(0, 0, 4, 0, 2, 10), 1);
        x.forge(0, 0);
        Due.is("no points at all", x.check(0, 0, 4, 0, 2, 1), 0);
        for (int k = 0; k < 6; k++) {
            x.forge(9 * k, 1);
        }
        Due.is("all", x.check(0, 0, 4, 0, 2, 20), -1);
        // With too few points even a far page is missed.
        CurveShelf y = new CurveShelf();
        y.curve(0, 2, 4, 4, 0);
        y.shelf(0, 0);
        for (int i = 0; i < 17; i++) {
            y.put(0, i, i < 9 ? 0 : 15, i, 0, 1);
            if (i == 15) {
                y.put(0, 99, 15, 15, 0, 1);
            }
        }
        y.drop(0, 99);
        Due.is("two pages", y.witness(0, 0, 0, 0, 0, 9), 18);
        Due.is("one is read", y.out(0) + y.out(9), 1);
        Due.is("enough for nine", y.check(0, 0, 0, 0, 0, 9), -1);
        Due.is("not for ten", y.check(0, 0, 0, 0, 0, 10), 1);
    }

    private static void checkRefused() {
        CurveShelf x = RowsShelf.filled(60);
        Due.is("OUT is empty", x.check(0, 0, 4, 0, 2, 3), -2);
        x.witness(0, 0, 4, 0, 2, 3);
        Due.is("no shelf", x.check(1, 0, 4, 0, 2, 3), -2);
        Due.is("no place", x.check(0, -1, 4, 0, 2, 3), -2);
        Due.is("z", x.check(0, 0, 4, 1, 2, 3), -2);
        Due.is("way 3", x.check(0, 0, 4, 0, 3, 3), -2);
        Due.is("n 0", x.check(0, 0, 4, 0, 2, 0), -2);
        Due.is("n 21", x.check(0, 0, 4, 0, 2, 21), -2);
        x.shelf(1, 0);
        Due.is("no pages there", x.check(1, 0, 4, 0, 2, 3), -2);
        x.put(1, 1, 0, 4, 0, 1);
        Due.is("one page there", x.check(1, 0, 4, 0, 2, 3), -2);
    }

    private static void checkOfNothing() {
        CurveShelf x = new CurveShelf();
        x.curve(0, 2, 4, 4, 0);
        x.shelf(0, 0);
        Due.is("no pages, no bytes", x.check(0, 0, 0, 0, 0, 1), -1);
        x.put(0, 1, 0, 4, 0, 1);
        Due.is("a page", x.check(0, 0, 0, 0, 0, 1), -2);
    }
}
