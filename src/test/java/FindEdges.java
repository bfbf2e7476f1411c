/** The edges of Terms IV and of the promises 24 to 29. */
final class FindEdges {
    /** A point in the farthest corner of the greatest curve. */
    private static final World FAR = World.FULL.and("put 1 7 1048575 1048575 1048575 9 = 0");

    private FindEdges() {
    }

    static void all() {
        ways();
        boxes();
        inOrder();
        untilAbove();
        pagesInTheWindow();
        promise24();
        promise25();
        promise26();
        promise27();
        promises28And29();
    }

    private static void ways() {
        Edge edge = Edge.of("Terms IV", "DISTANCES of two PLACES by WAY: 0 the sum of the axes' differences (without sign), 1 the "
                + "greatest of them, 2 the sum of their squares")
            .in(World.RICH.and("shelf 2 1", "put 2 5 3 2 1 0 = 0"))
            .run("nearest 2 0 0 0 0 1 = 1", "found 0 1 = 6", "nearest 2 0 0 0 1 1 = 1", "found 0 1 = 3",
                "nearest 2 0 0 0 2 1 = 1", "found 0 1 = 14")
            .run("nearest 2 3 3 3 0 1 = 1", "found 0 1 = 3", "nearest 2 3 3 3 1 1 = 1", "found 0 1 = 2",
                "nearest 2 3 3 3 2 1 = 1", "found 0 1 = 5", "nearest 2 3 2 1 2 1 = 1", "found 0 1 = 0")
            .in(FAR)
            .run("nearest 1 0 0 0 0 1 = 1", "found 0 1 = 3145725", "nearest 1 0 0 0 1 1 = 1", "found 0 1 = 1048575",
                "nearest 1 0 0 0 2 1 = 1", "found 0 1 = 3298528591875")
            .in(World.RICH);
        for (String way : new String[] {"-1", "3", "MIN", "MAX"}) {
            edge.refused("nearest 0 0 0 0 " + way + " 1 = -1", "within 0 0 0 0 " + way + " 1 = -1",
                "pairs 0 " + way + " = -1", "witness 0 0 0 0 " + way + " 1 = -1", "check 0 0 4 0 " + way + " 3 = -2");
        }
    }

    /** Page 2 of shelf 0 has the box x 1, y 2 .. 9; its distance's lowest byte is OUT's last. */
    private static void boxes() {
        Edge.of("Terms IV", "of a BOX and a PLACE: the least of the BOX's PLACES.")
            .run("witness 0 1 2 0 0 1 = 27", "out 26 = 0", "witness 0 1 9 0 0 1 = 27", "out 26 = 0",
                "witness 0 1 5 0 0 1 = 27", "out 26 = 0", "witness 0 1 1 0 0 1 = 27", "out 26 = 1",
                "witness 0 1 10 0 0 1 = 27", "out 26 = 1", "witness 0 0 2 0 0 1 = 27", "out 26 = 1",
                "witness 0 2 9 0 0 1 = 27", "out 26 = 1", "witness 0 0 1 0 0 1 = 27", "out 26 = 2",
                "witness 0 0 1 0 1 1 = 27", "out 26 = 1", "witness 0 3 12 0 0 1 = 27", "out 26 = 5",
                "witness 0 3 12 0 1 1 = 27", "out 26 = 3", "witness 0 3 12 0 2 1 = 27", "out 26 = 13");
    }

    private static void inOrder() {
        Edge.of("Terms IV", "NEAREST n POINTS: by DISTANCE, of like ones the lesser NAME first")
            .in(World.ONE.and("put 0 9 4 3 0 1", "put 0 2 5 4 0 1", "put 0 5 3 4 0 1", "put 0 7 4 5 0 1", "put 0 8 4 4 0 1"))
            .run("nearest 0 4 4 0 0 4 = 4", "found 0 0 = 8", "found 1 0 = 2", "found 2 0 = 5", "found 3 0 = 7",
                "found 4 0 = -1", "found 0 1 = 0", "found 3 1 = 1")
            .run("nearest 0 4 4 0 0 1 = 1", "found 0 0 = 8", "found 1 0 = -1")
            .run("within 0 4 4 0 2 1 = 5", "found 0 0 = 8", "found 1 0 = 2", "found 4 0 = 9");
    }

    private static void untilAbove() {
        String words = "they are found by READING PAGES in the order of their BOXES' DISTANCES, of like ones the first PAGE, until "
            + "all are READ, or there are n POINTS and the next BOX's DISTANCE is above the n-th's.";
        // From (7, 0) the first page's points are 7, 8, .. away, the second page's box 8.
        Edge.of("Terms IV", words).in(World.APART)
            .run("nearest 0 7 0 0 0 1 = 1", "found 0 0 = 0", "spent 2 = 1")
            .run("nearest 0 7 0 0 0 2 = 2", "found 1 0 = 1", "found 1 1 = 8", "spent 2 = 2")
            .run("nearest 0 8 0 0 0 1 = 1", "found 0 0 = 9", "found 0 1 = 7", "spent 2 = 1")
            .run("nearest 0 0 0 0 0 9 = 9", "found 8 1 = 8", "spent 2 = 1")
            .run("nearest 0 0 0 0 0 10 = 10", "found 9 1 = 15", "spent 2 = 2")
            .run("nearest 0 0 0 0 0 17 = 17", "spent 2 = 2").run("nearest 0 0 0 0 0 18 = 17", "spent 2 = 2")
            // A page whose box is as near as one of its points: it is read.
            .in(World.RICH)
            .run("nearest 0 0 4 0 0 1 = 1", "found 0 0 = 4", "spent 2 = 2")
            .run("nearest 0 0 4 0 0 2 = 2", "found 1 0 = 3", "spent 2 = 3");
    }

    private static void pagesInTheWindow() {
        Edge edge = Edge.of("Terms IV", "POINTS in the WINDOW: PAGES are READ in order, each if the WINDOW has a NUMBER from its "
            + "first POINT's on to its last POINT's.");
        int[][] numberFoundRead = {{0, 1, 1}, {8, 1, 1}, {9, 1, 1}, {17, 1, 1}, {18, 1, 1}, {25, 1, 1}, {26, 0, 0}};
        for (int[] n : numberFoundRead) {
            String place = n[0] / 16 + " " + n[0] % 16 + " 0";
            edge.run("low " + place, "high " + place, "points 0 = " + n[1], "spent 2 = " + n[2]);
        }
        edge.run("low 0 8 0", "high 0 9 0", "points 0 = 2", "spent 2 = 2", "found 0 0 = 8", "found 1 0 = 9")
            .run("low 0 0 0", "high 15 15 0", "points 0 = 26", "spent 2 = 3", "found 25 0 = 25");
        // A page from number 5 to number 69.
        edge.in(World.ONE.and("put 0 1 0 5 0 3", "put 0 2 4 5 0 4"))
            .run("low 0 4 0", "high 0 4 0", "points 0 = 0", "spent 2 = 0")
            .run("low 0 5 0", "high 0 5 0", "points 0 = 1", "spent 2 = 1")
            .run("low 0 6 0", "high 0 6 0", "points 0 = 0", "spent 2 = 1")
            .run("low 4 4 0", "high 4 4 0", "points 0 = 0", "spent 2 = 1")
            .run("low 4 5 0", "high 4 5 0", "points 0 = 1", "spent 2 = 1")
            .run("low 4 6 0", "high 4 6 0", "points 0 = 0", "spent 2 = 0")
            .run("low 0 4 0", "high 4 4 0", "points 0 = 0", "spent 2 = 1");
    }

    private static void promise24() {
        Edge.of("Promise 24", "POINTS of a shelf in THE WINDOW, which are FOUND then, in order: how many")
            .run("points 0 = 6", "found 0 0 = 1", "found 5 0 = 19", "found 6 0 = -1", "found 5 1 = 0", "spent 0 = 6",
                "spent 1 = 60", "spent 2 = 3")
            .run("points 3 = 0", "found 0 0 = -1", "spent 0 = 0", "spent 1 = 0", "spent 2 = 0");
        Edge.of("Promise 24", "NONE if there is no such shelf, or it is none of its CURVE.")
            .refused("points 2 = -1", "points -1 = -1", "points 4 = -1", "points MIN = -1", "points MAX = -1")
            .in(World.RICH.and("high 9 9 0")).taken("points 0 = 18").refused("points 3 = -1", "points 1 = -1")
            .in(World.RICH.and("high 2 0 0")).refused("points 0 = -1", "points 1 = -1", "points 3 = -1");
    }

    private static void promise25() {
        Edge.of("Promise 25", "The NEAREST n (1 .. 20) POINTS to a PLACE by a WAY")
            .taken("nearest 0 0 0 0 0 1 = 1", "nearest 0 0 0 0 0 20 = 20")
            .refused("nearest 0 0 0 0 0 0 = -1", "nearest 0 0 0 0 0 21 = -1", "nearest 0 0 0 0 0 -1 = -1",
                "nearest 0 0 0 0 0 MIN = -1", "nearest 0 0 0 0 0 MAX = -1");
        Edge.of("Promise 25", "which are FOUND then: how many there are, n at most")
            .run("nearest 0 0 0 0 0 20 = 20", "found 19 0 = 10", "found 20 0 = -1", "spent 0 = 20")
            .taken("nearest 1 0 0 0 0 20 = 20", "nearest 3 0 0 0 0 20 = 0")
            .run("drop 1 0 = 19", "nearest 1 0 0 0 0 20 = 19", "nearest 1 0 0 0 0 19 = 19", "nearest 1 0 0 0 0 18 = 18")
            .run("nearest 3 0 0 0 0 1 = 0", "found 0 0 = -1", "spent 0 = 0", "spent 1 = 0", "spent 2 = 0")
            .in(World.FULL).taken("nearest 3 0 0 0 0 20 = 2", "nearest 0 255 15 0 2 20 = 20");
        Edge edge = Edge.of("Promise 25", "NONE if there is no such shelf, PLACE, WAY, n.")
            .taken("nearest 0 15 15 0 2 20 = 20", "nearest 0 0 0 0 0 1 = 1", "nearest 1 3 3 3 1 1 = 1")
            .refused(badPlaces("nearest", "1", "-1"))
            .refused("nearest 2 0 0 0 0 1 = -1", "nearest -1 0 0 0 0 1 = -1", "nearest 4 0 0 0 0 1 = -1",
                "nearest 0 0 0 0 -1 1 = -1", "nearest 0 0 0 0 3 1 = -1", "nearest 0 0 0 0 2 21 = -1");
        edge.in(World.FULL).refused(badGreatPlaces("nearest", "1", "-1"));
    }

    /** A call with a shelf, a place, a way and one number more, at places that can't be: 16 by 16 and 4 by 4 by 4. */
    static String[] badPlaces(String call, String more, String answer) {
        String end = " 0 " + more + " = " + answer;
        return new String[] {call + " 0 -1 0 0" + end, call + " 0 16 0 0" + end, call + " 0 0 -1 0" + end,
            call + " 0 0 16 0" + end, call + " 0 0 0 -1" + end, call + " 0 0 0 1" + end, call + " 1 -1 0 0" + end,
            call + " 1 4 0 0" + end, call + " 1 0 -1 0" + end, call + " 1 0 4 0" + end, call + " 1 0 0 -1" + end,
            call + " 1 0 0 4" + end, call + " 3 9 0 0" + end, call + " 3 0 9 0" + end, call + " 0 MIN MAX MIN" + end};
    }

    /** Likewise on shelf 1 with 20 bits. */
    static String[] badGreatPlaces(String call, String more, String answer) {
        String end = " 0 " + more + " = " + answer;
        return new String[] {call + " 1 1048576 0 0" + end, call + " 1 0 1048576 0" + end, call + " 1 0 0 1048576" + end,
            call + " 1 MAX MAX MAX" + end};
    }

    private static void promise26() {
        Edge.of("Promise 26", "All POINTS up to a DISTANCE (not below 0) from a PLACE by a WAY, which are FOUND then, as NEAREST ones "
                + "are in order: how many")
            .run("within 0 0 4 0 0 1 = 4", "found 0 0 = 4", "found 1 0 = 3", "found 2 0 = 5", "found 3 0 = 20",
                "found 3 1 = 1", "found 4 0 = -1", "spent 1 = 32")
            .taken("within 0 0 4 0 0 0 = 1", "within 0 0 0 0 0 MAX = 26", "within 0 15 15 0 0 14 = 0",
                "within 0 15 15 0 0 15 = 1", "within 3 0 0 0 0 MAX = 0")
            .refused("within 0 0 4 0 0 -1 = -1", "within 0 0 4 0 0 MIN = -1", "within 3 0 4 0 0 -1 = -1")
            .in(World.FULL).taken("within 0 255 15 0 2 MAX = 300", "within 0 0 0 0 0 270 = 300")
            .in(FAR)
            .taken("within 1 0 0 0 0 3145724 = 0", "within 1 0 0 0 0 3145725 = 1", "within 1 0 0 0 1 1048574 = 0",
                "within 1 0 0 0 1 1048575 = 1", "within 1 0 0 0 2 MAX = 0");
        Edge.of("Promise 26", "(all PAGES whose BOX's DISTANCE is not above that are READ)")
            .run("within 0 0 4 0 0 0 = 1", "spent 2 = 2").run("within 0 0 4 0 0 1 = 4", "spent 2 = 3")
            .in(World.APART)
            .run("within 0 7 0 0 0 6 = 0", "spent 2 = 0").run("within 0 7 0 0 0 7 = 1", "spent 2 = 1")
            .run("within 0 7 0 0 0 8 = 3", "spent 2 = 2")
            .run("within 0 8 15 0 1 7 = 0", "spent 2 = 0").run("within 0 8 15 0 1 8 = 3", "spent 2 = 2")
            // The box is near, none of its points is.
            .in(World.ONE.and("put 0 1 0 0 0 1", "put 0 2 9 9 0 1"))
            .run("within 0 5 4 0 0 0 = 0", "spent 2 = 1", "spent 0 = 0");
        Edge.of("Promise 26", "NONE likewise.")
            .refused(badPlaces("within", "1", "-1"))
            .refused("within 2 0 0 0 0 1 = -1", "within -1 0 0 0 0 1 = -1", "within 4 0 0 0 0 1 = -1",
                "within 0 0 0 0 -1 1 = -1", "within 0 0 0 0 3 1 = -1")
            .in(World.FULL).refused(badGreatPlaces("within", "MAX", "-1"));
    }

    private static void promise27() {
        Edge.of("Promise 27", "The two POINTS of a shelf with the least DISTANCE by a WAY, which are FOUND then, the lesser NAME first "
                + "(of several pairs that with the least lesser NAME, then the least other one; all PAGES are READ): 2")
            .run("pairs 0 0 = 2", "found 0 0 = 0", "found 1 0 = 1", "found 2 0 = -1", "found 0 1 = 1", "found 1 1 = 1",
                "spent 2 = 3")
            .in(World.ONE.and("put 0 8 0 0 0 1", "put 0 2 0 1 0 1"))
            .run("pairs 0 0 = 2", "found 0 0 = 2", "found 1 0 = 8", "spent 1 = 2", "spent 2 = 1")
            // Point 2 is next to 9, 6, 4 and 7; later 1 and 3 are as near to each other.
            .in(World.ONE.and("put 0 2 5 5 0 1", "put 0 9 5 6 0 1", "put 0 6 4 5 0 1", "put 0 4 6 5 0 1", "put 0 7 5 4 0 1"))
            .run("pairs 0 2 = 2", "found 0 0 = 2", "found 1 0 = 4", "drop 0 4 = 4", "pairs 0 2 = 2", "found 1 0 = 6",
                "put 0 1 15 14 0 1", "put 0 3 15 15 0 1", "pairs 0 2 = 2", "found 0 0 = 1", "found 1 0 = 3",
                "put 0 9999 15 15 0 1", "pairs 0 2 = 2", "found 0 0 = 3", "found 1 0 = 9999", "found 1 1 = 0")
            .in(World.ONE.and("put 0 1 0 0 0 1", "put 0 2 0 5 0 1", "put 0 3 10 0 0 1", "put 0 4 13 0 0 1"))
            .run("pairs 0 0 = 2", "found 0 0 = 3", "found 1 0 = 4", "found 0 1 = 3", "pairs 0 1 = 2", "found 0 0 = 3",
                "found 0 1 = 3", "pairs 0 2 = 2", "found 0 0 = 3", "found 0 1 = 9")
            .in(World.FULL).run("pairs 3 2 = 2", "found 0 0 = 0", "found 1 0 = 9999", "found 0 1 = 8")
            // In space: 1 and 2 are one apart by z, 3 and 4 two by y.
            .in(World.RICH.and("shelf 2 1", "put 2 1 0 0 3 1", "put 2 2 0 0 2 1", "put 2 3 3 3 0 1", "put 2 4 3 1 0 1"))
            .run("pairs 2 0 = 2", "found 0 0 = 1", "found 1 0 = 2", "found 0 1 = 1")
            .run("pairs 2 1 = 2", "found 0 0 = 1", "found 1 0 = 2", "found 0 1 = 1")
            .run("pairs 2 2 = 2", "found 0 0 = 1", "found 1 0 = 2", "found 0 1 = 1")
            .run("drop 2 1 = 3", "pairs 2 2 = 2", "found 0 0 = 3", "found 1 0 = 4", "found 0 1 = 4")
            .in(FAR.and("put 1 5 0 0 0 1")).run("pairs 1 2 = 2", "found 0 0 = 5", "found 0 1 = 3298528591875");
        Edge.of("Promise 27", "0 if there are fewer than two (none are FOUND then)")
            .run("put 3 7 1 1 0 9 = 0", "pairs 3 0 = 0", "found 0 0 = -1", "spent 0 = 0", "spent 1 = 0", "spent 2 = 1",
                "put 3 8 1 1 0 9 = 0", "pairs 3 0 = 2")
            .run("pairs 3 0 = 0", "found 0 0 = -1", "spent 0 = 0", "spent 1 = 0", "spent 2 = 0");
        Edge.of("Promise 27", "NONE if there is no such shelf, WAY.")
            .taken("pairs 0 0 = 2", "pairs 0 2 = 2")
            .refused("pairs 2 0 = -1", "pairs -1 0 = -1", "pairs 4 0 = -1", "pairs 0 -1 = -1", "pairs 0 3 = -1",
                "pairs 3 3 = -1", "pairs MIN MAX = -1");
    }

    private static void promises28And29() {
        Edge.of("Promise 28", "FOUND i: what 0 its NAME, 1 its DISTANCE (of pairs(): that of the two; of points(): 0).")
            .taken("found 0 0 = 3", "found 0 1 = 0", "found 4 0 = 1", "found 4 1 = 2")
            .run("pairs 0 0 = 2", "found 0 1 = 1", "found 1 1 = 1").run("points 0 = 6", "found 0 1 = 0", "found 5 1 = 0")
            .run("drop 0 3 = 25", "found 0 0 = 3").run("shelf 0 1 = 1", "found 0 0 = 3", "spent 1 = 29")
            .refused("found 0 -1 = -1", "found 0 2 = -1", "found 0 MIN = -1", "found 0 MAX = -1");
        Edge.of("Promise 28", "NONE if there is none such.")
            .refused("found -1 0 = -1", "found 5 0 = -1", "found 5 1 = -1", "found MIN 0 = -1", "found MAX 1 = -1")
            .in(World.FULL).taken("spent 0 = 300").refused("found 300 0 = -1", "found 300 1 = -1")
            .in(World.BARE).refused("found 0 0 = -1", "found 0 1 = -1");
        Edge.of("Promise 29", "Of the latest points(), nearest(), within(), pairs() that was not refused: 0 how many are FOUND, 1 the "
                + "sum of their weights, 2 PAGES that were READ.")
            .taken("spent 0 = 5", "spent 1 = 29", "spent 2 = 3")
            .run("nearest 0 0 3 0 0 21 = -1", "within 0 0 3 0 0 -1 = -1", "pairs 0 3 = -1", "points 2 = -1", "spent 0 = 5",
                "spent 1 = 29", "spent 2 = 3", "witness 0 15 15 0 0 1 = 27", "check 0 15 15 0 0 1 = -1", "spent 2 = 3",
                "pairs 0 0 = 2", "spent 0 = 2", "spent 1 = 1", "spent 2 = 3");
        Edge.of("Promise 29", "NONE for others; 0 ahead of any.")
            .refused("spent -1 = -1", "spent 3 = -1", "spent MIN = -1", "spent MAX = -1")
            .in(World.ONE.filled(0, 3)).taken("spent 0 = 0", "spent 1 = 0", "spent 2 = 0").refused("spent 3 = -1", "spent -1 = -1")
            .run("nearest 0 0 0 0 0 0 = -1", "spent 0 = 0", "spent 1 = 0", "spent 2 = 0")
            .in(World.BARE).taken("spent 0 = 0", "spent 1 = 0", "spent 2 = 0").refused("spent 3 = -1");
    }
}
