/** The edges of Terms V and of the promises 30 and 31. */
final class MeanEdges {
    /** RICH, whose curves 0 (ROWS, 16 by 16) and 2 (SNAIL, 9 by 9) have means, with ROWS of 128 by 128, 2 by 128, 128 by 2. */
    private static final World SQUARES = World.RICH.and("image 1", "curve 0 2 7 7 0 = 4", "curve 0 2 1 7 0 = 5",
        "curve 0 2 7 1 0 = 6", "curve 2 2 2 0 0 = 7");

    private MeanEdges() {
    }

    static void all() {
        square();
        lowestTerms();
        promise30();
        promise31();
    }

    private static void square() {
        Edge.of("Terms V", "MEANS, of a CURVE with D = 2: of all WINDOWS with w PLACES by x, h by y within the square of PLACES with "
                + "both axes below s (1 .. 64): how many they are, how many SPANS they have together")
            .in(SQUARES)
            .taken("mean 4 1 1 1 0 = 1", "mean 4 1 1 1 1 = 1", "mean 4 64 1 1 0 = 4096", "mean 4 64 1 1 1 = 4096",
                "mean 4 64 64 64 0 = 1", "mean 4 64 64 64 1 = 64", "mean 4 64 1 64 0 = 64", "mean 4 64 1 64 1 = 64",
                "mean 4 64 64 1 0 = 64", "mean 4 64 64 1 1 = 4096", "mean 0 16 16 16 1 = 1", "mean 0 16 16 15 1 = 32")
            .taken("mean 4 4 2 1 0 = 12", "mean 4 4 2 1 1 = 24", "mean 4 4 1 2 0 = 12", "mean 4 4 1 2 1 = 12",
                "mean 4 4 2 3 0 = 6", "mean 4 4 2 3 1 = 12", "mean 4 4 3 2 0 = 6", "mean 4 4 3 2 1 = 18")
            // A step of the curve from one end of a row to the other is in no window that is less wide.
            .taken("mean 0 16 2 2 0 = 225", "mean 0 16 2 2 1 = 450", "mean 0 16 3 14 1 = 126", "mean 0 16 3 15 1 = 84")
            // The curve leaves the square and comes again.
            .taken("mean 2 4 2 2 1 = 17", "mean 2 4 4 4 1 = 3", "mean 2 5 3 2 1 = 33", "mean 7 3 2 2 1 = 8",
                "mean 7 3 3 3 1 = 3", "mean 7 3 2 1 1 = 9", "mean 7 3 1 2 1 = 9")
            .taken("mean 2 9 9 9 1 = 1", "mean 2 3 1 3 1 = 3", "mean 2 3 3 1 1 = 7", "mean 7 4 2 2 1 = 14")
            .refused("mean 4 0 1 1 0 = -1", "mean 4 65 1 1 0 = -1", "mean 4 -1 1 1 0 = -1", "mean 4 MIN 1 1 0 = -1",
                "mean 4 MAX 1 1 0 = -1", "mean 1 1 1 1 0 = -1", "mean 3 1 1 1 0 = -1");
    }

    private static void lowestTerms() {
        Edge.of("Terms V", "MEAN is the quotient, in its lowest terms.").in(SQUARES)
            .taken("mean 4 4 2 3 2 = 2", "mean 4 4 2 3 3 = 1", "mean 7 4 2 2 2 = 14", "mean 7 4 2 2 3 = 9",
                "mean 2 3 3 1 2 = 7", "mean 2 3 3 1 3 = 3", "mean 2 5 3 2 2 = 11",
                "mean 2 5 3 2 3 = 4", "mean 4 1 1 1 2 = 1", "mean 4 1 1 1 3 = 1",
                "mean 4 64 64 1 2 = 64", "mean 4 64 64 1 3 = 1", "mean 4 64 1 64 2 = 1", "mean 4 64 1 64 3 = 1");
    }

    private static void promise30() {
        Edge.of("Promise 30", "MEAN of a CURVE for s, w, h (1 .. s): what 0 WINDOWS, 1 SPANS, 2 above the line, 3 below it.").in(SQUARES)
            .taken("mean 7 4 1 1 0 = 16", "mean 7 4 4 4 0 = 1", "mean 7 4 1 4 0 = 4", "mean 7 4 4 1 0 = 4",
                "mean 7 4 2 2 0 = 9", "mean 7 4 2 2 1 = 14", "mean 7 4 2 2 2 = 14", "mean 7 4 2 2 3 = 9")
            .refused("mean 7 4 0 1 0 = -1", "mean 7 4 5 1 0 = -1", "mean 7 4 1 0 0 = -1", "mean 7 4 1 5 0 = -1",
                "mean 7 4 -1 1 0 = -1", "mean 7 4 1 -1 0 = -1", "mean 7 4 MAX MAX 0 = -1", "mean 7 4 1 1 -1 = -1",
                "mean 7 4 1 1 4 = -1", "mean 7 4 1 1 MIN = -1", "mean 7 4 1 1 MAX = -1");
        Edge.of("Promise 30", "NONE if there is no such CURVE with D = 2, an axis can't be s - 1, or a number can't be.").in(SQUARES)
            .taken("mean 5 2 1 1 0 = 4", "mean 6 2 1 1 0 = 4", "mean 7 4 1 1 0 = 16", "mean 0 16 1 1 0 = 256",
                "mean 2 9 1 1 0 = 81", "mean 4 64 64 64 3 = 1")
            .refused("mean 5 3 1 1 0 = -1", "mean 6 3 1 1 0 = -1", "mean 7 5 1 1 0 = -1", "mean 0 17 1 1 0 = -1",
                "mean 2 10 1 1 0 = -1", "mean 1 4 1 1 0 = -1", "mean 3 2 1 1 0 = -1", "mean 8 1 1 1 0 = -1",
                "mean -1 1 1 1 0 = -1", "mean 4 65 1 1 0 = -1", "mean 4 0 0 0 0 = -1", "mean 4 2 3 1 0 = -1");
    }

    private static void promise31() {
        Edge.of("Promise 31", "The order of two CURVES' MEANS: 1 the first one's is the greater, 0, -1").in(SQUARES)
            .taken("compare 4 7 4 2 2 = 1", "compare 7 4 4 2 2 = -1", "compare 7 7 4 2 2 = 0", "compare 4 0 4 2 3 = 0",
                "compare 4 0 1 1 1 = 0", "compare 4 4 64 64 64 = 0", "compare 0 4 16 2 16 = -1", "compare 4 0 16 2 16 = 1");
        Edge.of("Promise 31", "-2 if one can't be told.").in(SQUARES)
            .taken("compare 7 4 4 4 4 = -1", "compare 5 6 2 1 1 = 0")
            .refused("compare 7 4 5 1 1 = -2", "compare 4 7 5 1 1 = -2", "compare 5 4 3 1 1 = -2", "compare 4 6 3 1 1 = -2",
                "compare 1 4 2 1 1 = -2", "compare 4 1 2 1 1 = -2", "compare 8 4 2 1 1 = -2", "compare 4 8 2 1 1 = -2",
                "compare -1 4 2 1 1 = -2", "compare 4 -1 2 1 1 = -2", "compare 4 4 0 1 1 = -2", "compare 4 4 65 1 1 = -2",
                "compare 4 4 2 0 1 = -2", "compare 4 4 2 3 1 = -2", "compare 4 4 2 1 0 = -2", "compare 4 4 2 1 3 = -2",
                "compare 1 1 1 1 1 = -2");
    }
}
