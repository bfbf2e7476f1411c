/** The edges of Terms VII, of the sentences behind it, and of the promises 36 to 39. */
final class RackEdges {
    /** RICH, with another image, and then changed in all that an image keeps. */
    private static final World KEPT = World.RICH.and("image 1 = 1");
    private static final World CHANGED = KEPT.and("curve 1 2 1 0 0 = 4", "shelf 2 4 = 1", "put 2 1 1 1 0 1 = 0", "drop 0 0",
        "move 0 1 9 9 0", "sow 0 40 1", "undo 1", "shelf 3 0", "low 1 1 0", "high 1 1 0", "spans 4 = 1", "pairs 0 0 = 2",
        "lay 0 3 0 0", "lay 1 2 0 4", "lay 7 1 2 0");

    private RackEdges() {
    }

    static void all() {
        places();
        asItWas();
        askedOf();
        refusedChangesNothing();
        promise36();
        promise37();
        promises38And39();
    }

    private static void places() {
        Edge.of("Terms VII", "A RACK of 8 places")
            .taken("lay 0 2 0 0 = 1", "lay 7 2 0 0 = 1", "ask 0 5 = 0", "ask 7 5 = -3")
            .run("lay 7 2 0 0 = 1", "ask 7 4 = 256")
            .refused("lay -1 2 0 0 = 0", "lay 8 2 0 0 = 0", "lay MIN 3 0 0 = 0", "lay MAX 3 0 0 = 0", "ask -1 5 = -4",
                "ask 8 5 = -4", "ask MIN 5 = -4", "ask MAX 5 = -4")
            .in(World.FULL).taken("ask 0 5 = 0", "ask 7 5 = 1").refused("lay 8 0 0 0 = 0", "ask 8 0 = -4");
    }

    private static void asItWas() {
        Edge.of("Terms VII", "each with a POINT (as it was: NAME, NUMBER, weight), a PAGE (how many POINTS, sum of weights), a CURVE "
                + "(its number), or nothing.")
            .taken("ask 0 0 = 5", "ask 0 1 = 5", "ask 1 2 = 9", "ask 1 3 = 117", "ask 2 4 = 64", "ask 3 5 = -3")
            .run("move 0 5 9 9 0 = 2", "ask 0 0 = 5", "drop 0 5 = 25", "ask 0 0 = 5", "ask 0 1 = 5", "drop 0 10 = 24",
                "ask 1 2 = 9", "ask 1 3 = 117", "shelf 0 2 = 1", "ask 0 1 = 5", "ask 1 3 = 117")
            .run("lay 3 0 0 25 = 1", "undo 0 = 5", "find 0 25 = -1", "ask 3 0 = 25", "ask 3 1 = 25");
    }

    private static void askedOf() {
        Edge.of("Terms VII", "What is asked of a place as of a POINT, a PAGE, a CURVE goes for these alone; else -2, of nothing -3.")
            .taken("ask 0 0 = 5", "ask 0 1 = 5").refused("ask 0 2 = -2", "ask 0 3 = -2", "ask 0 4 = -2")
            .taken("ask 1 2 = 9", "ask 1 3 = 117").refused("ask 1 0 = -2", "ask 1 1 = -2", "ask 1 4 = -2")
            .taken("ask 2 4 = 64").refused("ask 2 0 = -2", "ask 2 1 = -2", "ask 2 2 = -2", "ask 2 3 = -2")
            .refused("ask 3 0 = -3", "ask 3 1 = -3", "ask 3 2 = -3", "ask 3 3 = -3", "ask 3 4 = -3", "ask 3 5 = -3");
    }

    /** One refused call of each kind, where much is there and where all is full. */
    private static void refusedChangesNothing() {
        Edge edge = Edge.of("Terms, behind VII", "A call that is refused changes nothing but what is told.");
        for (World world : new World[] {World.RICH, World.FULL, CHANGED, World.BARE}) {
            edge.in(world)
                .refused("curve 1 2 21 0 0 = -1", "number 8 0 0 0 = -1", "place 0 -1 0 = -1", "size 8 = 0", "gap 0 0 301 = -1",
                    "shelf 0 8 = 0", "put 4 0 0 0 0 0 = -1", "drop 0 9999 = -1", "move 0 9999 0 0 0 = -1",
                    "find 0 9999 = -1", "at 0 300 0 = -1", "count 0 5 = -1", "page 0 99 0 = -1", "undo 4 = -1")
                .refused("spans 8 = -1", "span 200 0 = -1", "few 0 = -1", "jump 8 0 = -1", "points 4 = -1",
                    "nearest 0 0 0 0 0 21 = -1", "within 0 0 0 0 0 -1 = -1", "pairs 0 3 = -1", "found 300 0 = -1",
                    "spent 3 = -1", "mean 0 65 1 1 0 = -1", "compare 0 0 65 1 1 = -2", "witness 0 0 0 0 0 21 = -1",
                    "out 2700 = -1", "forge 2700 0 = -1", "check 0 0 0 0 0 21 = -2", "lay 8 3 0 0 = 0", "ask 8 0 = -4",
                    "image 2 = 0", "back 2 = 0");
        }
        edge.in(World.RICH).refused("put 0 5 0 0 0 0 = -5", "put 0 26 16 0 0 0 = -2", "sow 0 41 1 = -2", "back 1 = 0")
            .in(World.FULL).refused("put 0 300 0 0 0 0 = -6", "sow 0 1 1 = -6", "curve 1 2 1 0 0 = -1");
        Edge.of("Terms, behind VII", "The constants: `NONE = -1`: None.").refused("find 0 26 = " + CurveShelf.NONE)
            .taken("find 0 25 = 25");
        Due.is("NONE", CurveShelf.NONE, -1);
    }

    private static void promise36() {
        Edge.of("Promise 36", "Place k of the RACK has a POINT (what 0: with a NAME), a PAGE (1), both of a shelf, a CURVE (2; the shelf "
                + "is not looked at), or nothing (3): true")
            .run("lay 4 0 0 25 = 1", "ask 4 5 = 0", "ask 4 0 = 25", "lay 4 1 0 2 = 1", "ask 4 5 = 1", "ask 4 2 = 8",
                "lay 4 2 0 3 = 1", "ask 4 5 = 2", "ask 4 4 = 64", "lay 4 3 0 0 = 1", "ask 4 5 = -3")
            .taken("lay 4 2 2 0 = 1", "lay 4 2 -1 0 = 1", "lay 4 2 4 0 = 1", "lay 4 2 MIN 0 = 1", "lay 4 2 MAX 0 = 1")
            .taken("lay 0 3 0 0 = 1", "lay 0 3 2 99 = 1", "lay 0 3 MIN MAX = 1", "lay 3 3 0 0 = 1")
            .run("lay 0 3 -1 -1 = 1", "ask 0 0 = -3", "ask 0 5 = -3", "ask 1 5 = 1");
        Edge.of("Promise 36", "false if there is none such.")
            .taken("lay 0 0 0 0 = 1", "lay 7 0 0 25 = 1", "lay 0 1 0 0 = 1", "lay 7 1 0 2 = 1", "lay 0 2 0 3 = 1")
            .refused("lay -1 0 0 0 = 0", "lay 8 0 0 0 = 0", "lay 8 3 0 0 = 0", "lay -1 3 0 0 = 0", "lay 0 -1 0 0 = 0",
                "lay 0 4 0 0 = 0", "lay 0 MIN 0 0 = 0", "lay 0 MAX 0 0 = 0", "lay 0 0 0 26 = 0", "lay 0 0 0 -1 = 0",
                "lay 0 0 2 0 = 0", "lay 0 0 4 0 = 0", "lay 0 0 -1 0 = 0", "lay 0 0 3 0 = 0", "lay 0 1 0 3 = 0",
                "lay 0 1 0 -1 = 0", "lay 0 1 2 0 = 0", "lay 0 1 4 0 = 0", "lay 0 1 -1 0 = 0", "lay 0 1 3 0 = 0",
                "lay 0 2 0 4 = 0", "lay 0 2 0 -1 = 0", "lay 0 2 0 MAX = 0");
    }

    private static void promise37() {
        Edge.of("Promise 37", "What place k has is asked as of a POINT (0: its NUMBER, 1: its weight), a PAGE (2: its POINTS, 3: the sum "
                + "of weights), a CURVE (4: its SIZE), or for its sort (5: 0, 1, 2): that")
            .taken("ask 0 0 = 5", "ask 0 1 = 5", "ask 0 5 = 0", "ask 1 2 = 9", "ask 1 3 = 117", "ask 1 5 = 1",
                "ask 2 4 = 64", "ask 2 5 = 2")
            .in(World.FULL.and("lay 0 2 0 6 = 1", "put 1 7 0 0 1048575 1000 = 0", "lay 7 0 1 7 = 1"))
            .taken("ask 0 4 = " + (1L << 60), "ask 7 0 = " + ((1L << 60) - 1), "ask 7 1 = 1000");
        Edge.of("Promise 37", "-2, -3 as told")
            .refused("ask 0 2 = -2", "ask 1 1 = -2", "ask 2 3 = -2", "ask 7 0 = -3", "ask 7 5 = -3");
        Edge.of("Promise 37", "-4 no such place, or as.")
            .taken("ask 0 0 = 5", "ask 0 5 = 0", "ask 7 5 = -3")
            .refused("ask -1 0 = -4", "ask 8 0 = -4", "ask MIN 5 = -4", "ask MAX 5 = -4", "ask 0 -1 = -4", "ask 0 6 = -4",
                "ask 0 MIN = -4", "ask 0 MAX = -4", "ask 3 -1 = -4", "ask 3 6 = -4", "ask 8 6 = -4");
    }

    private static void promises38And39() {
        Edge.of("Promise 38", "An image of all but OUT is kept (place 0, 1): true")
            .taken("image 0 = 1", "image 1 = 1")
            .run("image 1 = 1", "drop 0 0 = 25", "image 0 = 1", "drop 0 1 = 24", "back 1 = 1", "count 0 0 = 26", "back 0 = 1",
                "count 0 0 = 25", "image 1 = 1", "drop 0 2 = 24", "back 1 = 1", "count 0 0 = 25")
            .run("image 1 = 1", "forge 3 5 = 77", "back 1 = 1", "out 3 = 5");
        Edge.of("Promise 38", "false if there is no such place.")
            .refused("image -1 = 0", "image 2 = 0", "image MIN = 0", "image MAX = 0")
            .in(World.FULL).refused("image -1 = 0", "image 2 = 0");
        Edge.of("Promise 39", "All but OUT and images is as it was when an image was made: true")
            .in(KEPT).alike(CHANGED.and("back 1 = 1")).alike(CHANGED.and("back 1 = 1", "back 0 = 1", "back 1 = 1"))
            .in(World.FULL).alike(World.FULL.and("shelf 0 6 = 1", "few 1 = 1", "sow 0 9 9 = 9", "pairs 0 0 = 2", "lay 0 3 0 0",
                "low 9 9 9", "high 0 0 0", "back 1 = 1"))
            .in(KEPT)
            .run("back 0 = 1", "back 1 = 1", "back 0 = 1", "spent 0 = 3", "back 1 = 1", "spent 0 = 5")
            .run("witness 1 0 0 0 0 1 = 18", "back 1 = 1", "out 17 = 2", "out 18 = -1")
            .in(World.BARE.and("image 0 = 1"))
            .run("curve 0 2 4 4 0 = 0", "shelf 0 0 = 1", "put 0 0 0 0 0 0 = 0", "back 0 = 1", "size 0 = 0", "count 0 0 = -1",
                "curve 3 2 1 0 0 = 0", "size 0 = 9", "back 0 = 1", "size 0 = 0")
            // Another curve under the same number, and the first one again.
            .run("curve 1 2 1 0 0 = 0", "shelf 0 0 = 1", "image 1 = 1", "back 0 = 1", "curve 3 2 1 0 0 = 0", "shelf 0 0 = 1",
                "put 0 1 2 2 0 0 = 0", "size 0 = 9", "back 1 = 1", "size 0 = 4", "put 0 1 2 2 0 0 = -2",
                "put 0 1 1 1 0 0 = 0");
        Edge.of("Promise 39", "false if there is none.")
            .refused("back 1 = 0", "back -1 = 0", "back 2 = 0", "back MIN = 0", "back MAX = 0")
            .in(World.BARE).refused("back 0 = 0", "back 1 = 0")
            .in(World.FULL).taken("back 0 = 1", "back 1 = 1").refused("back -1 = 0", "back 2 = 0");
    }
}
