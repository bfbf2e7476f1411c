/** What many tests begin with: shelf 0 on ROWS of 16 by 16, so that the NUMBER of (x, y) is 16 x + y. */
final class RowsShelf {
    private RowsShelf() {
    }

    static CurveShelf empty() {
        CurveShelf x = new CurveShelf();
        x.curve(0, 2, 4, 4, 0);
        x.shelf(0, 0);
        return x;
    }

    /** Points 0 .. n - 1, point i at number i with weight i; beyond 16 the pages are 9, 9, .. and the rest. */
    static CurveShelf filled(int n) {
        CurveShelf x = empty();
        for (int i = 0; i < n; i++) {
            x.put(0, i, i / 16, i % 16, 0, i);
        }
        return x;
    }
}
