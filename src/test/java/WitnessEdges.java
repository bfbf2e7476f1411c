import java.util.ArrayList;
import java.util.List;

/** The edges of Terms VI and of the promises 32 to 35. */
final class WitnessEdges {
    /** A true witness for the nearest 3 to (0, 4) by squares: all three pages are read, 0, 0 and 1 away. */
    private static final World TRUE = World.RICH.and("witness 0 0 4 0 2 3 = 27");
    private static final int[] FAR_BYTES = {1, 0, 0, 0x02, 0xFF, 0xFF, 0xA0, 0x00, 0x03};

    private WitnessEdges() {
    }

    static void all() {
        bytes();
        falseBytes();
        enoughPoints();
        notAbove();
        promise32();
        promises33And34();
        promise35();
    }

    /** Rows that ask for the bytes of OUT from one on. */
    private static String[] outs(String row, int from, int... bytes) {
        List<String> rows = new ArrayList<>(List.of(row));
        for (int i = 0; i < bytes.length; i++) {
            rows.add("out " + (from + i) + " = " + bytes[i]);
        }
        return rows.toArray(new String[0]);
    }

    private static void bytes() {
        Edge.of("Terms VI", "A WITNESS of NEAREST n to a PLACE by a WAY on a shelf: for each PAGE in order a byte, 1 if it was READ (0 "
                + "else), and its BOX's DISTANCE in eight bytes, the highest first.")
            .run(outs("witness 0 0 4 0 2 1 = 27", 0, 1, 0, 0, 0, 0, 0, 0, 0, 0, 1, 0, 0, 0, 0, 0, 0, 0, 0, 0, 0, 0, 0, 0, 0, 0,
                0, 1, -1))
            .run(outs("witness 0 0 4 0 2 3 = 27", 18, 1, 0, 0, 0, 0, 0, 0, 0, 1, -1))
            // Page 2's box is x 1, y 2 .. 9: 14 by x, 6 by y.
            .run(outs("witness 0 15 15 0 2 1 = 27", 18, 0, 0, 0, 0, 0, 0, 0, 0, 14 * 14 + 6 * 6, -1))
            .in(World.RICH.and("shelf 0 0", "put 0 5 0 0 0 0 = 0"))
            .run(outs("witness 0 15 15 0 2 1 = 9", 0, 1, 0, 0, 0, 0, 0, 0, 1, 450 - 256, -1))
            .in(World.FULL.and("put 1 7 1048575 1048575 1048575 9 = 0"))
            .run(outs("witness 1 0 0 0 2 1 = 9", 0, FAR_BYTES))
            .run("witness 1 0 0 0 2 1 = 9", "check 1 0 0 0 2 1 = -1", "check 1 0 0 1 2 1 = 0");
    }

    private static void falseBytes() {
        String words = "CHECK of such bytes: the first PAGE whose byte is neither 0 nor 1, or whose DISTANCE is not that";
        String check = "check 0 0 4 0 2 3 = ";
        Edge edge = Edge.of("Terms VI", words).in(TRUE).taken(check + "-1");
        for (int k = 0; k < 3; k++) {
            for (String mark : new String[] {"2", "-1", "255", "128", "MAX"}) {
                edge.run("forge " + 9 * k + " " + mark + " = 1", check + k);
            }
            edge.run("forge " + 9 * k + " 257 = 1", check + "-1");
            for (int i = 1; i < 9; i++) {
                int was = k == 2 && i == 8 ? 1 : 0;
                edge.run("forge " + (9 * k + i) + " " + (was + 1) + " = " + was, check + k);
                edge.run("forge " + (9 * k + i) + " 255 = " + was, check + k);
            }
        }
        edge.run("forge 26 0 = 1", check + "2").run("forge 18 2 = 1", "forge 9 2 = 1", check + "1")
            .run("forge 18 2 = 1", "forge 8 1 = 0", check + "0")
            .run("forge 0 0 = 1", check + "0").run("forge 0 0 = 1", "forge 18 2 = 1", check + "2")
            .run("forge 0 0 = 1", "forge 26 2 = 1", check + "2");
    }

    private static void enoughPoints() {
        Edge.of("Terms VI", "else, with f the n-th DISTANCE of the POINTS of the PAGES whose bytes are 1 (none, if these are not n "
                + "POINTS)")
            .in(World.APART.and("witness 0 0 0 0 0 1 = 18"))
            .run("out 0 = 1", "out 9 = 0", "check 0 0 0 0 0 1 = -1", "check 0 0 0 0 0 9 = -1", "check 0 0 0 0 0 10 = 1",
                "check 0 0 0 0 0 20 = 1")
            .run("forge 9 1 = 0", "check 0 0 0 0 0 17 = -1", "check 0 0 0 0 0 18 = -1", "forge 0 0 = 1",
                "check 0 0 0 0 0 8 = 0", "check 0 0 0 0 0 9 = 0")
            .run("forge 0 0 = 1", "check 0 0 0 0 0 1 = 0", "check 0 0 0 0 0 20 = 0");
    }

    private static void notAbove() {
        Edge.of("Terms VI", "the first PAGE whose byte is 0 and whose DISTANCE is not above f (or there is no f); else NONE.")
            // The pages are 7 and 8 away from (7, 0).
            .in(World.APART.and("witness 0 7 0 0 0 1 = 18"))
            .run("out 8 = 7", "out 17 = 8", "out 9 = 0", "check 0 7 0 0 0 1 = -1", "check 0 7 0 0 0 2 = 1")
            .run("forge 9 1 = 0", "check 0 7 0 0 0 1 = -1", "check 0 7 0 0 0 2 = -1")
            // With the second page alone f is 8, and the first one's box is nearer.
            .run("forge 9 1 = 0", "forge 0 0 = 1", "check 0 7 0 0 0 1 = 0")
            .in(TRUE)
            .run("forge 9 0 = 1", "check 0 0 4 0 2 3 = 1").run("forge 18 0 = 1", "check 0 0 4 0 2 3 = 2",
                "check 0 0 4 0 2 2 = 2", "check 0 0 4 0 2 1 = -1")
            .run("forge 9 0 = 1", "forge 18 0 = 1", "check 0 0 4 0 2 3 = 1");
    }

    private static void promise32() {
        Edge.of("Promise 32", "OUT is a WITNESS: how many bytes")
            .taken("witness 0 0 0 0 0 1 = 27", "witness 1 0 0 0 0 1 = 18", "witness 3 0 0 0 0 1 = 0")
            .run("witness 3 0 0 0 0 1 = 0", "out 0 = -1", "forge 0 1 = -1")
            .run("witness 1 0 0 0 0 1 = 18", "out 17 = 2", "out 18 = -1");
        Edge.of("Promise 32", "NONE as for nearest().")
            .taken("witness 0 15 15 0 2 1 = 27", "witness 0 15 15 0 2 20 = 27", "witness 1 3 3 3 0 20 = 18")
            .refused(FindEdges.badPlaces("witness", "1", "-1"))
            .refused("witness 2 0 0 0 0 1 = -1", "witness -1 0 0 0 0 1 = -1", "witness 4 0 0 0 0 1 = -1",
                "witness 0 0 0 0 -1 1 = -1", "witness 0 0 0 0 3 1 = -1", "witness 0 0 0 0 0 0 = -1",
                "witness 0 0 0 0 0 21 = -1", "witness 0 0 0 0 0 MIN = -1", "witness 0 0 0 0 0 MAX = -1",
                "witness 3 0 0 0 0 21 = -1")
            .in(World.FULL).refused(FindEdges.badGreatPlaces("witness", "1", "-1"));
    }

    private static void promises33And34() {
        Edge.of("Promise 33", "NONE if there is none such.")
            .taken("out 0 = 1", "out 3 = 77", "out 26 = 1")
            .refused("out -1 = -1", "out 27 = -1", "out MIN = -1", "out MAX = -1")
            .in(World.ONE).refused("out 0 = -1");
        Edge.of("Promise 34", "Byte i of OUT becomes v (its lowest 8 bits): what it was")
            .run("forge 26 0 = 1", "out 26 = 0", "forge 26 255 = 0", "out 26 = 255", "forge 26 256 = 255", "out 26 = 0",
                "forge 26 -1 = 0", "out 26 = 255", "forge 26 MAX = 255", "out 26 = 255", "forge 26 MIN = 255",
                "out 26 = 0", "forge 26 -128 = 0", "out 26 = 128", "forge 26 127 = 128", "out 26 = 127")
            .run("forge 0 9 = 1", "out 0 = 9", "out 1 = 0");
        Edge.of("Promise 34", "NONE if there is none such.")
            .taken("forge 0 5 = 1", "forge 26 5 = 1")
            .refused("forge -1 5 = -1", "forge 27 5 = -1", "forge MIN 5 = -1", "forge MAX 5 = -1")
            .in(World.ONE).refused("forge 0 5 = -1");
    }

    private static void promise35() {
        Edge.of("Promise 35", "CHECK of OUT, as a WITNESS: NONE, or a PAGE.").in(TRUE)
            .taken("check 0 0 4 0 2 3 = -1", "check 0 0 4 0 2 1 = -1", "check 0 0 4 0 2 20 = -1", "check 0 0 9 0 2 3 = 0",
                "check 0 2 4 0 2 3 = 0")
            .in(World.RICH).taken("check 0 0 4 0 2 3 = 0")
            // What a longer OUT had is not looked at.
            .run("forge 26 9 = 1", "forge 18 2 = 1", "witness 1 0 0 0 0 1 = 18", "check 1 0 0 0 0 1 = -1")
            .run("out 18 = 1", "drop 1 5 = 19", "witness 1 0 0 0 0 1 = 18", "check 1 0 0 0 0 1 = -1");
        Edge.of("Promise 35", "-2 if nearest() would be refused so, or OUT has not nine bytes for each PAGE.").in(TRUE)
            .refused(FindEdges.badPlaces("check", "1", "-2"))
            .refused("check 2 0 4 0 2 3 = -2", "check -1 0 4 0 2 3 = -2", "check 4 0 4 0 2 3 = -2", "check 0 0 4 0 -1 3 = -2",
                "check 0 0 4 0 3 3 = -2", "check 0 0 4 0 2 0 = -2", "check 0 0 4 0 2 21 = -2", "check 0 0 4 0 2 MIN = -2",
                "check 1 0 0 0 0 1 = -2", "check 3 0 0 0 0 1 = -2")
            .in(TRUE.and("undo 0 = 5", "count 0 1 = 2")).refused("check 0 0 4 0 2 3 = -2")
            .in(TRUE.filled(26, 34).and("count 0 1 = 4")).refused("check 0 0 4 0 2 3 = -2")
            .in(TRUE.filled(26, 33).and("count 0 1 = 3")).taken("check 0 0 4 0 2 3 = -1")
            .in(World.ONE).taken("check 0 0 0 0 0 1 = -1").run("put 0 1 0 0 0 1 = 0", "check 0 0 0 0 0 1 = -2")
            .in(World.FULL).refused(FindEdges.badGreatPlaces("check", "1", "-2"));
    }
}
