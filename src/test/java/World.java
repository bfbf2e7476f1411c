import java.util.ArrayList;
import java.util.List;

/** A state that an edge is tried in, told as the calls that lead to it. */
final class World {
    /** A new object. */
    static final World BARE = new World(List.of());

    /** Shelf 0 on ROWS of 16 by 16, without points. */
    static final World ONE = BARE.and("curve 0 2 4 4 0", "shelf 0 0");

    /** Shelf 0 of ONE with a page of 9 points at x 0, y 0 .. 8, and one of 8 at x 15, y 0 .. 7. */
    static final World APART = apart();

    /**
     * Something of everything. Shelf 0 (ROWS, 16 by 16) has the points 0 .. 25 at the numbers 0 .. 25 with the weights
     * 0 .. 25, in pages of 9, 9, 8; shelf 1 is in space (TURNING, 4 by 4 by 4); shelf 2 is not there; shelf 3 (SNAIL,
     * 9 by 9) is empty. Curve 3 is MIXED, 4 by 2 by 8. There is an image at 0, and none at 1.
     */
    static final World RICH = rich();

    /**
     * All that can be full: 8 curves; 300 points on shelf 0 (ROWS, 256 by 16); 200 spans told; 300 found; all of the
     * rack; both images. Shelf 1 is on TURNING in space with 20 bits, shelf 2 on WOVEN of 8 by 8, both without points;
     * shelf 3 has the points 0 and 9999 on SNAIL of 3 by 3.
     */
    static final World FULL = full();

    private final List<String> texts;
    private final List<Call> rows = new ArrayList<>();

    private World(List<String> texts) {
        this.texts = texts;
        for (String text : texts) {
            rows.add(Call.of(text));
        }
    }

    World and(String... more) {
        List<String> all = new ArrayList<>(texts);
        all.addAll(List.of(more));
        return new World(all);
    }

    /** Points a .. b (both) of shelf 0, point i at number i of 16 by 16 with weight i. */
    World filled(int a, int b) {
        List<String> puts = new ArrayList<>();
        for (int i = a; i <= b; i++) {
            puts.add("put 0 " + i + " " + i / 16 + " " + i % 16 + " 0 " + i);
        }
        return and(puts.toArray(new String[0]));
    }

    /** The points a .. b (both) of shelf 0 go, from b on down. */
    World dropped(int a, int b) {
        List<String> drops = new ArrayList<>();
        for (int i = b; i >= a; i--) {
            drops.add("drop 0 " + i);
        }
        return and(drops.toArray(new String[0]));
    }

    int calls() {
        return rows.size();
    }

    CurveShelf made() {
        CurveShelf x = new CurveShelf();
        for (Call row : rows) {
            row.on(x, "in the making");
        }
        return x;
    }

    /** The same calls on a Model. */
    Model modelled() {
        Model model = new Model();
        for (String text : texts) {
            Call.of(Model.class, text).answerOf(model);
        }
        return model;
    }

    private static World apart() {
        List<String> puts = new ArrayList<>();
        for (int i = 0; i < 17; i++) {
            puts.add("put 0 " + i + (i < 9 ? " 0 " + i : " 15 " + (i - 9)) + " 0 1");
        }
        return ONE.and(puts.toArray(new String[0]));
    }

    private static World rich() {
        return BARE.and("curve 0 2 4 4 0 = 0", "curve 2 3 2 0 0 = 1", "curve 3 2 2 0 0 = 2", "curve 4 3 2 1 3 = 3",
                "shelf 0 0 = 1")
            .filled(0, 25)
            .and("shelf 1 1 = 1", "sow 1 20 7 = 20", "shelf 3 2 = 1",
                "low 1 1 0", "high 2 2 0", "spans 1 = 3", "nearest 1 1 1 1 0 3 = 3", "lay 0 2 0 3 = 1", "image 0 = 1",
                "low 0 1 0", "high 2 3 0", "spans 0 = 3", "few 2 = 2", "nearest 0 0 3 0 0 5 = 5",
                "witness 0 0 4 0 2 3 = 27", "forge 3 77 = 0", "lay 0 0 0 5 = 1", "lay 1 1 0 1 = 1", "lay 2 2 0 1 = 1",
                "move 1 0 3 3 3");
    }

    private static World full() {
        List<String> rows = new ArrayList<>(List.of("curve 0 2 8 4 0 = 0", "curve 1 2 1 0 0 = 1", "curve 2 2 6 0 0 = 2",
            "curve 3 2 1 0 0 = 3", "curve 4 2 7 6 0 = 4", "curve 0 3 1 1 1 = 5", "curve 2 3 20 0 0 = 6",
            "curve 1 2 3 0 0 = 7", "shelf 0 0 = 1", "image 0 = 1", "shelf 1 6 = 1", "shelf 2 7 = 1", "shelf 3 3 = 1",
            "put 3 9999 2 2 0 1000 = 0", "put 3 0 0 0 0 0 = 0"));
        for (int i = 1; i <= 7; i++) {
            rows.add("sow 0 40 " + i + " = " + 40 * i);
        }
        rows.addAll(List.of("sow 0 20 8 = 300", "high 199 2 0", "spans 0 = 200", "within 0 0 0 0 0 1000 = 300",
            "witness 0 100 8 0 2 20"));
        for (int k = 0; k < 8; k++) {
            rows.add("lay " + k + " " + k % 3 + " 0 " + k + " = 1");
        }
        rows.add("image 1 = 1");
        return new World(rows);
    }
}
