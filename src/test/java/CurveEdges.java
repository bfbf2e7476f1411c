/** The edges of Terms I and of the promises 1 to 6. */
final class CurveEdges {
    private static final int LAST_BIT = (1 << 20) - 1;
    private static final int LAST_THIRD = 531440;
    private static final String USE = "What it is";

    private CurveEdges() {
    }

    static void all() {
        calls();
        newObject();
        curves();
        kinds();
        axes();
        lengths();
        places();
        numbers();
        rowsAndWoven();
        turning();
        turningEnds();
        snail();
        promise2();
        promises3And4();
        promises5And6();
    }

    /** The 512th call is answered as due; later answers are free, but come. */
    private static void calls() {
        String[] rows = new String[514];
        rows[0] = "curve 0 2 4 4 0 = 0";
        rows[1] = "shelf 0 0 = 1";
        for (int i = 2; i < 512; i++) {
            rows[i] = i % 2 == 0 ? "put 0 " + i + " 3 4 0 5 = 0" : "undo 0 = 0";
        }
        rows[511] = "at 0 0 0 = 510";
        rows[512] = "at 0 0 0";
        rows[513] = "curve MIN MAX MIN MAX MIN";
        Edge.of(USE, "An object is used for at most 512 calls after it has been made; what later calls answer is free.")
            .in(World.BARE)
            .run(rows);
    }

    private static void newObject() {
        Edge edge = Edge.of("Promise 1", "No CURVES, no shelves, nothing on the RACK; empty OUT.").in(World.BARE)
            .refused("size 0 = 0", "size 7 = 0", "number 0 0 0 0 = -1", "place 0 0 0 = -1", "gap 0 0 1 = -1",
                "spans 0 = -1", "jump 0 -1 = -1", "mean 0 1 1 1 0 = -1", "compare 0 0 1 1 1 = -2", "shelf 0 0 = 0",
                "lay 0 2 0 0 = 0", "out 0 = -1", "forge 0 1 = -1", "span 0 0 = -1", "found 0 0 = -1", "back 0 = 0",
                "back 1 = 0")
            .taken("curve 1 2 1 0 0 = 0", "lay 0 3 0 0 = 1", "image 0 = 1", "beyond = 0", "few 1 = 0");
        for (int s = 0; s < 4; s++) {
            edge.refused("count " + s + " 0 = -1", "put " + s + " 0 0 0 0 0 = -1", "pairs " + s + " 0 = -1");
        }
        for (int k = 0; k < 8; k++) {
            edge.taken("ask " + k + " 0 = -3", "ask " + k + " 5 = -3");
        }
    }

    private static void curves() {
        Edge edge = Edge.of("Terms I", "CURVES 0 .. 7.").in(World.FULL)
            .taken("size 0 = 4096", "number 0 1 1 0 = 17", "place 0 17 1 = 1", "gap 0 14 2 = 16", "shelf 1 0 = 1",
                "spans 0 = 200", "jump 0 2 = 16", "mean 0 2 1 1 0 = 4", "compare 0 7 2 1 1 = 0", "lay 0 2 0 0 = 1")
            .taken("size 7 = 64", "number 7 1 1 0 = 3", "place 7 3 1 = 1", "gap 7 0 2 = 2", "shelf 1 7 = 1",
                "mean 7 2 1 1 0 = 4", "compare 7 0 2 1 1 = 0", "lay 0 2 0 7 = 1")
            .run("low 1 1 0", "high 2 1 0", "spans 7 = 2", "jump 7 3 = 9");
        for (String none : new String[] {"-1", "8", "MIN", "MAX"}) {
            edge.refused("size " + none + " = 0", "number " + none + " 0 0 0 = -1", "place " + none + " 0 0 = -1",
                "gap " + none + " 0 1 = -1", "shelf 1 " + none + " = 0", "spans " + none + " = -1",
                "jump " + none + " -1 = -1", "mean " + none + " 1 1 1 0 = -1", "compare " + none + " 0 1 1 1 = -2",
                "compare 0 " + none + " 1 1 1 = -2", "lay 0 2 0 " + none + " = 0");
        }
    }

    private static void kinds() {
        Edge.of("Terms I", "KINDS: 0 ROWS, 1 WOVEN, 2 TURNING, 3 SNAIL, 4 MIXED.")
            .run("curve 0 2 2 2 0 = 4", "number 4 1 0 0 = 4", "number 4 0 2 0 = 2")
            .run("curve 1 2 2 0 0 = 4", "number 4 1 0 0 = 2", "number 4 0 2 0 = 4")
            .run("curve 2 2 2 0 0 = 4", "number 4 1 0 0 = 3", "number 4 0 2 0 = 14")
            .run("curve 3 2 2 0 0 = 4", "number 4 1 0 0 = 5", "number 4 0 2 0 = 2")
            .run("curve 4 2 1 2 0 = 4", "number 4 1 0 0 = 2", "number 4 0 2 0 = 4")
            .refused("curve -1 2 2 2 0 = -1", "curve -1 2 2 0 0 = -1", "curve 5 2 2 2 0 = -1", "curve 5 2 2 0 0 = -1",
                "curve MIN 2 2 0 0 = -1", "curve MAX 2 2 0 0 = -1");
    }

    private static void axes() {
        Edge edge = Edge.of("Terms I", "AXES x, y and, with D = 3, z.");
        for (int kind = 0; kind < 5; kind++) {
            boolean own = kind % 4 == 0;
            edge.taken("curve " + kind + " 2 2 " + (own ? "2 0" : "0 0") + " = 4")
                .taken("curve " + kind + " 3 2 " + (own ? "2 2" : "0 0") + " = 4");
            for (String d : new String[] {"1", "4", "0", "-1", "MIN", "MAX"}) {
                edge.refused("curve " + kind + " " + d + " 2 " + (own ? "2 0" : "0 0") + " = -1")
                    .refused("curve " + kind + " " + d + " 2 " + (own ? "2 2" : "0 0") + " = -1");
            }
        }
    }

    private static void lengths() {
        Edge own = Edge.of("Terms I", "By KINDS 0, 4 each axis has its own bits (1 .. 20)");
        for (int kind = 0; kind <= 4; kind += 4) {
            String flat = "curve " + kind + " 2 ";
            String deep = "curve " + kind + " 3 ";
            own.run(flat + "1 20 0 = 4", "size 4 = 2097152", "number 4 1 1048575 0 = 2097151", "number 4 2 0 0 = -1")
                .run(flat + "20 1 0 = 4", "size 4 = 2097152", "number 4 1048575 1 0 = 2097151", "number 4 0 2 0 = -1")
                .run(deep + "1 1 20 = 4", "size 4 = 4194304", "number 4 1 1 1048575 = 4194303", "number 4 0 0 1048576 = -1")
                .run(deep + "20 20 20 = 4", "size 4 = 1152921504606846976")
                .run(deep + "1 1 1 = 4", "size 4 = 8")
                .refused(flat + "0 1 0 = -1", flat + "21 1 0 = -1", flat + "1 0 0 = -1", flat + "1 21 0 = -1",
                    deep + "0 1 1 = -1", deep + "21 1 1 = -1", deep + "1 0 1 = -1", deep + "1 21 1 = -1",
                    deep + "1 1 0 = -1", deep + "1 1 21 = -1", deep + "-1 1 1 = -1", deep + "1 MIN 1 = -1",
                    deep + "1 1 MAX = -1");
        }
        Edge same = Edge.of("Terms I", "by 1, 2 all have the same (1 .. 20)");
        for (int kind = 1; kind <= 2; kind++) {
            String flat = "curve " + kind + " 2 ";
            String deep = "curve " + kind + " 3 ";
            same.run(flat + "1 0 0 = 4", "size 4 = 4").run(flat + "20 0 0 = 4", "size 4 = 1099511627776")
                .run(deep + "1 0 0 = 4", "size 4 = 8").run(deep + "20 0 0 = 4", "size 4 = 1152921504606846976")
                .refused(flat + "0 0 0 = -1", flat + "21 0 0 = -1", deep + "0 0 0 = -1", deep + "21 0 0 = -1",
                    deep + "-1 0 0 = -1", deep + "MAX 0 0 = -1", deep + "MIN 0 0 = -1");
        }
        Edge.of("Terms I", "by 3 all have the same thirds (1 .. 12)")
            .run("curve 3 2 1 0 0 = 4", "size 4 = 9").run("curve 3 2 12 0 0 = 4", "size 4 = 282429536481")
            .run("curve 3 3 1 0 0 = 4", "size 4 = 27").run("curve 3 3 12 0 0 = 4", "size 4 = 150094635296999121")
            .refused("curve 3 2 0 0 0 = -1", "curve 3 2 13 0 0 = -1", "curve 3 3 0 0 0 = -1", "curve 3 3 13 0 0 = -1",
                "curve 3 3 20 0 0 = -1", "curve 3 2 -1 0 0 = -1");
    }

    private static void places() {
        Edge.of("Terms I", "A PLACE has on each axis a whole from 0 to below 2 to the bits (3 to the thirds)")
            .taken("number 0 0 0 0 = 0", "number 0 15 15 0 = 255", "number 1 0 0 0 = 0", "number 1 3 3 3 = 43",
                "number 2 0 0 0 = 0", "number 2 8 8 0 = 80", "number 3 0 0 0 = 0", "number 3 3 1 7 = 63")
            .refused("number 0 -1 0 0 = -1", "number 0 16 0 0 = -1", "number 0 0 -1 0 = -1", "number 0 0 16 0 = -1",
                "number 1 -1 0 0 = -1", "number 1 4 0 0 = -1", "number 1 0 -1 0 = -1", "number 1 0 4 0 = -1",
                "number 1 0 0 -1 = -1", "number 1 0 0 4 = -1", "number 2 -1 0 0 = -1", "number 2 9 0 0 = -1",
                "number 2 0 -1 0 = -1", "number 2 0 9 0 = -1", "number 3 4 0 0 = -1", "number 3 0 2 0 = -1",
                "number 3 0 0 8 = -1", "number 3 MIN 0 0 = -1", "number 3 0 MAX 0 = -1", "number 3 0 0 MIN = -1");
        Edge.of("Terms I", "with D = 2 its z is 0")
            .taken("number 0 1 1 0 = 17", "number 2 1 1 0 = 4", "place 0 17 2 = 0", "place 2 80 2 = 0",
                "put 0 99 1 1 0 1 = 1", "put 3 99 1 1 0 1 = 0", "at 0 3 3 = 0", "page 0 1 4 = 0", "page 0 1 7 = 0")
            .refused("number 0 1 1 1 = -1", "number 0 1 1 -1 = -1", "number 2 1 1 1 = -1", "number 2 1 1 -1 = -1",
                "put 0 99 1 1 1 1 = -2", "put 3 99 1 1 -1 1 = -2");
    }

    private static void numbers() {
        Edge.of("Terms I", "NUMBERS of PLACES are the wholes from 0 on to below the product of these (SIZE).")
            .taken("size 0 = 256", "place 0 0 0 = 0", "place 0 255 0 = 15", "place 0 255 1 = 15",
                "size 1 = 64", "place 1 0 2 = 0", "place 1 63 2 = 3", "place 1 63 0 = 0",
                "size 2 = 81", "place 2 80 0 = 8", "size 3 = 64", "place 3 63 1 = 1", "place 3 63 2 = 7")
            .refused("place 0 -1 0 = -1", "place 0 256 0 = -1", "place 1 -1 2 = -1", "place 1 64 2 = -1",
                "place 2 81 0 = -1", "place 3 64 1 = -1", "place 0 MIN 0 = -1", "place 0 MAX 0 = -1",
                "place 0 4294967296 0 = -1");
        String last = ((1L << 60) - 1) + "";
        World great = World.RICH.and("curve 1 3 20 0 0");
        Edge.of("Terms I", "(SIZE)").in(great)
            .taken("place 4 " + last + " 0 = 1048575", "place 4 " + last + " 1 = 1048575",
                "place 4 " + last + " 2 = 1048575")
            .refused("place 4 " + (1L << 60) + " 0 = -1");
    }

    private static void rowsAndWoven() {
        Edge.of("Terms I", "ROWS: x times what y can be, and y; with D = 3 that times what z can be, and z.")
            .run("curve 0 2 1 3 0 = 4", "number 4 0 7 0 = 7", "number 4 1 0 0 = 8", "number 4 1 7 0 = 15")
            .run("curve 0 3 2 1 3 = 4", "number 4 0 0 7 = 7", "number 4 0 1 0 = 8", "number 4 0 1 7 = 15",
                "number 4 1 0 0 = 16", "number 4 3 1 7 = 63");
        Edge.of("Terms I", "WOVEN, MIXED: the bits of the PLACE's wholes one behind the other, the highest first: for each "
                + "bit from the highest of all axes' on, of x, then y, then z, those that have such a bit.")
            .run("curve 1 3 2 0 0 = 4", "number 4 2 0 0 = 32", "number 4 0 2 0 = 16", "number 4 0 0 2 = 8",
                "number 4 1 0 0 = 4", "number 4 0 1 0 = 2", "number 4 0 0 1 = 1")
            // x1, then x0 and y0: the highest bit is that of x alone.
            .run("curve 4 2 2 1 0 = 4", "number 4 2 0 0 = 4", "number 4 1 0 0 = 2", "number 4 0 1 0 = 1")
            // y2, then x1 and y1, then x0 and y0.
            .run("curve 4 2 2 3 0 = 4", "number 4 0 4 0 = 16", "number 4 2 0 0 = 8", "number 4 0 2 0 = 4",
                "number 4 1 0 0 = 2", "number 4 0 1 0 = 1")
            // y1 and z1, then x0, y0 and z0.
            .run("curve 4 3 1 2 2 = 4", "number 4 0 2 0 = 16", "number 4 0 0 2 = 8", "number 4 1 0 0 = 4",
                "number 4 0 1 0 = 2", "number 4 0 0 1 = 1")
            // Of 20 bits against 1: nineteen bits of z go ahead.
            .run("curve 4 3 1 1 20 = 4", "number 4 0 0 1048575 = 4194297", "number 4 1 0 0 = 4", "number 4 0 1 0 = 2");
    }

    /** Both levels of TURNING in space, worked out from the document by hand: each w, odd and even, and 0. */
    private static void turning() {
        int[][] octants = {
            {0, 100, 101, 1, 11, 111, 110, 10},
            {20, 21, 31, 30, 130, 131, 121, 120},
            {220, 221, 231, 230, 330, 331, 321, 320},
            {310, 300, 200, 210, 211, 201, 301, 311},
            {312, 302, 202, 212, 213, 203, 303, 313},
            {323, 322, 332, 333, 233, 232, 222, 223},
            {123, 122, 132, 133, 33, 32, 22, 23},
            {13, 113, 112, 12, 2, 102, 103, 3},
        };
        String[] words = {
            "TURNING: e = 0, t = 0 at first.",
            "For each bit from the highest on: l has the D bits of x, y (, z), that of x the highest; l becomes l ^ e, "
                + "turned right t + 1 times (as D bits: each time the lowest one becomes the highest).",
            "w is the whole for which w ^ w >> 1 is l; its D bits are the next ones of the NUMBER, the highest first.",
            "Then, if w is not 0: with v the greatest even whole below w, e becomes e ^ (v ^ v >> 1, turned left t + 1 "
                + "times)",
            "t becomes (t + 1 + u) modulo D, u being how many 1s the bits of w (odd), of w - 1 (w even) end with",
            "if w is 0: t becomes (t + 1) modulo D.",
        };
        for (String sentence : words) {
            Edge edge = Edge.of("Terms I", sentence);
            for (int n = 0; n < 64; n++) {
                int at = octants[n / 8][n % 8];
                edge.taken("number 1 " + at / 100 + " " + at / 10 % 10 + " " + at % 10 + " = " + n);
            }
        }
    }

    private static void turningEnds() {
        Edge.of("Terms I", "if w is 0: t becomes (t + 1) modulo D.").in(World.BARE)
            .run("curve 2 2 20 0 0 = 0", "number 0 0 0 0 = 0", "number 0 0 " + LAST_BIT + " 0 = 1099511627775",
                "number 0 " + LAST_BIT + " 0 0 = 366503875925",
                "number 0 " + LAST_BIT + " " + LAST_BIT + " 0 = 733007751850",
                "curve 2 2 19 0 0 = 1", "number 1 0 524287 0 = 274877906943")
            .run("curve 2 3 20 0 0 = 0", "number 0 0 0 0 = 0", "number 0 0 0 " + LAST_BIT + " = 1152921504606846975",
                "number 0 " + LAST_BIT + " 0 0 = 457508533574145625",
                "number 0 0 " + LAST_BIT + " 0 = 201303754772624075",
                "number 0 " + LAST_BIT + " " + LAST_BIT + " " + LAST_BIT + " = 777764507076047563");
    }

    private static void snail() {
        String words = "SNAIL: the NUMBER's thirds one behind the other, the highest first, are of x, y (, z), x, y and so on: "
            + "a third of an axis is that of the PLACE's whole (its highest first), or, if the sum of all the NUMBER's "
            + "thirds ahead of it that are of other axes is odd, 2 less it.";
        // Number 9 is 0100 in thirds: y's 1 turns the second third of x, and that one's turned 2 is even again for y.
        Edge.of("Terms I", words)
            .taken("number 2 0 0 0 = 0", "number 2 0 2 0 = 2", "number 2 1 2 0 = 3", "number 2 1 0 0 = 5",
                "number 2 2 0 0 = 6", "number 2 2 2 0 = 8", "number 2 2 3 0 = 9", "number 2 0 5 0 = 17",
                "number 2 0 6 0 = 18", "number 2 3 8 0 = 27", "number 2 5 6 0 = 35", "number 2 8 8 0 = 80")
            .run("curve 3 2 12 0 0 = 4", "number 4 0 " + LAST_THIRD + " 0 = 70607384120",
                "number 4 " + LAST_THIRD + " 0 0 = 211822152360",
                "number 4 " + LAST_THIRD + " " + LAST_THIRD + " 0 = 282429536480")
            .run("curve 3 3 1 0 0 = 4", "number 4 0 1 2 = 3", "number 4 0 2 0 = 6", "number 4 1 2 2 = 9",
                "number 4 1 1 0 = 12", "number 4 1 0 2 = 15", "number 4 1 0 0 = 17", "number 4 2 0 0 = 18")
            .run("curve 3 3 12 0 0 = 4", "number 4 0 0 " + LAST_THIRD + " = 11545741176692240",
                "number 4 " + LAST_THIRD + " " + LAST_THIRD + " " + LAST_THIRD + " = 150094635296999120");
    }

    private static void promise2() {
        Edge.of("Promise 2", "A new CURVE with D axes, and what these have (c 0 with D = 2; by KINDS 1 to 3 a is that of all, "
                + "b and c 0): its number")
            .taken("curve 0 2 3 4 0 = 4", "curve 4 2 3 4 0 = 4", "curve 1 2 3 0 0 = 4", "curve 2 3 3 0 0 = 4",
                "curve 3 3 3 0 0 = 4")
            .refused("curve 0 2 3 4 1 = -1", "curve 0 2 3 4 -1 = -1", "curve 4 2 3 4 1 = -1", "curve 4 2 3 4 -1 = -1",
                "curve 1 2 3 1 0 = -1", "curve 1 2 3 -1 0 = -1", "curve 1 2 3 0 1 = -1", "curve 1 3 3 0 1 = -1",
                "curve 1 3 3 3 3 = -1", "curve 2 2 3 3 0 = -1", "curve 2 3 3 0 3 = -1", "curve 2 3 3 3 3 = -1",
                "curve 3 2 3 3 0 = -1", "curve 3 3 3 0 3 = -1", "curve 3 3 3 3 3 = -1");
        Edge.of("Promise 2", "NONE if something can't be")
            .refused("curve 5 2 3 3 0 = -1", "curve 0 4 3 3 3 = -1", "curve 0 3 21 3 3 = -1", "curve 0 3 3 3 0 = -1",
                "curve MIN MIN MIN MIN MIN = -1", "curve MAX MAX MAX MAX MAX = -1");
        Edge.of("Promise 2", "or there are 8.").in(World.RICH.and("curve 1 2 1 0 0 = 4", "curve 1 2 1 0 0 = 5",
                "curve 1 2 1 0 0 = 6"))
            .run("curve 1 2 1 0 0 = 7", "size 7 = 4", "curve 1 2 1 0 0 = -1", "size 8 = 0")
            .in(World.FULL)
            .refused("curve 1 2 1 0 0 = -1", "curve 0 2 1 1 0 = -1", "curve 3 3 12 0 0 = -1");
    }

    private static void promises3And4() {
        Edge.of("Promise 3", "NONE if there is no such CURVE, PLACE.")
            .taken("number 3 3 1 7 = 63", "number 0 15 0 0 = 240")
            .refused("number 4 0 0 0 = -1", "number -1 0 0 0 = -1", "number 3 3 1 8 = -1", "number 3 3 2 7 = -1",
                "number 3 4 1 7 = -1", "number 0 16 0 0 = -1", "number MAX MAX MAX MAX = -1");
        Edge.of("Promise 4", "The PLACE of a NUMBER, axis 0 to 2")
            .taken("place 3 29 0 = 3", "place 3 29 1 = 0", "place 3 29 2 = 3")
            .refused("place 3 29 -1 = -1", "place 3 29 3 = -1", "place 3 29 MIN = -1", "place 3 29 MAX = -1");
        Edge.of("Promise 4", "NONE if there is none such.")
            .taken("place 3 0 0 = 0", "place 3 63 0 = 3")
            .refused("place 3 -1 0 = -1", "place 3 64 0 = -1", "place 4 0 0 = -1", "place -1 0 0 = -1");
    }

    private static void promises5And6() {
        Edge.of("Promise 5", "0 if there is none such.")
            .taken("size 3 = 64").refused("size 4 = 0", "size -1 = 0", "size 7 = 0", "size 8 = 0");
        Edge.of("Promise 6", "The greatest sum of the axes' differences (without sign) between neighbours on a CURVE from a "
                + "NUMBER on, n (1 .. 300) steps")
            .taken("gap 0 14 1 = 1", "gap 0 15 1 = 16", "gap 0 0 15 = 1", "gap 0 0 16 = 16", "gap 2 0 80 = 1")
            .refused("gap 0 0 0 = -1", "gap 0 0 -1 = -1", "gap 0 0 MIN = -1", "gap 0 0 MAX = -1")
            .in(World.FULL)
            .taken("gap 0 0 1 = 1", "gap 0 0 300 = 16", "gap 6 0 300 = 1")
            .refused("gap 0 0 0 = -1", "gap 0 0 301 = -1", "gap 6 0 301 = -1");
        Edge.of("Promise 6", "NONE if these are not all there.")
            .taken("gap 0 0 255 = 16", "gap 0 254 1 = 1", "gap 0 200 55 = 16", "gap 3 0 63 = 5")
            .refused("gap 0 0 256 = -1", "gap 0 255 1 = -1", "gap 0 200 56 = -1", "gap 0 256 1 = -1", "gap 3 0 64 = -1",
                "gap 0 -1 1 = -1", "gap 0 -1 300 = -1", "gap 0 MIN 1 = -1", "gap 0 MAX 1 = -1", "gap 0 MAX 300 = -1",
                "gap 4 0 1 = -1", "gap -1 0 1 = -1")
            .in(World.FULL)
            .taken("gap 6 " + ((1L << 60) - 301) + " 300 = 1", "gap 6 " + ((1L << 60) - 2) + " 1 = 1")
            .refused("gap 6 " + ((1L << 60) - 300) + " 300 = -1", "gap 6 " + ((1L << 60) - 1) + " 1 = -1");
    }
}
