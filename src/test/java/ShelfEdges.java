import java.util.ArrayList;
import java.util.List;

/** The edges of Terms II, of the acts behind VII, and of the promises 7 to 16. */
final class ShelfEdges {
    private static final String[] NO_SHELF = {"-1", "4", "MIN", "MAX"};
    /** The pages 16, 1, 15: point 17 is alone. */
    private static final World THIN_BETWEEN = thinBetween();
    /** The pages 1, 9, 8, the second of which has just parted: the first two have 10 together. */
    private static final World THIN_AHEAD = World.ONE.filled(0, 24).dropped(0, 7).filled(25, 25);
    /** The pages 9, 8, 1 likewise: point 9 is alone. */
    private static final World THIN_BEHIND = thinBehind();

    private ShelfEdges() {
    }

    static void all() {
        shelves();
        upTo300();
        order();
        namesAndWeights();
        pagesHold();
        comesTo();
        parts();
        goesEmpty();
        melts();
        box();
        acts();
        promise7();
        promise8();
        promises9And10();
        promise11();
        sowDraws();
        promises12To14();
        promises15And16();
    }

    private static World thinBetween() {
        World w = World.ONE.filled(0, 25);
        for (int i = 0; i < 7; i++) {
            w = w.and("put 0 " + (100 + i) + " 0 0 0 0 = 0", "put 0 " + (200 + i) + " 15 15 0 0 = 2");
        }
        return w.dropped(9, 16);
    }

    private static World thinBehind() {
        World w = World.ONE.filled(0, 16);
        for (int i = 0; i < 7; i++) {
            w = w.and("put 0 " + (100 + i) + " 0 0 0 0 = 0");
        }
        return w.dropped(10, 16).and("put 0 107 0 0 0 0 = 0");
    }

    /** Rows that ask how many points each page of shelf 0 has. */
    private static String[] after(String row, int... sizes) {
        List<String> rows = new ArrayList<>(List.of(row, "count 0 1 = " + sizes.length));
        for (int k = 0; k < sizes.length; k++) {
            rows.add("page 0 " + k + " 0 = " + sizes[k]);
        }
        rows.add("page 0 " + sizes.length + " 0 = -1");
        return rows.toArray(new String[0]);
    }

    /** Every call with a shelf, as it is refused for want of it. */
    static String[] refusedOn(String s) {
        return new String[] {"put " + s + " 77 0 0 0 1 = -1", "drop " + s + " 0 = -1", "move " + s + " 0 1 1 0 = -1",
            "sow " + s + " 1 1 = -1", "find " + s + " 0 = -1", "at " + s + " 0 0 = -1", "count " + s + " 0 = -1",
            "page " + s + " 0 0 = -1", "undo " + s + " = -1", "points " + s + " = -1", "nearest " + s + " 0 0 0 0 1 = -1",
            "within " + s + " 0 0 0 0 1 = -1", "pairs " + s + " 0 = -1", "witness " + s + " 0 0 0 0 1 = -1",
            "check " + s + " 0 0 0 0 1 = -2", "lay 0 0 " + s + " 0 = 0", "lay 0 1 " + s + " 0 = 0"};
    }

    private static void shelves() {
        Edge edge = Edge.of("Terms II", "SHELVES 0 .. 3, each with a CURVE").in(World.FULL)
            .taken("shelf 0 3 = 1", "shelf 3 0 = 1", "count 0 3 = 0", "count 3 3 = 3", "put 3 5 1 1 0 1 = 0",
                "drop 3 0 = 1", "move 3 0 2 2 0 = 0", "sow 3 1 1 = 3", "find 3 9999 = 1", "at 3 1 0 = 9999",
                "page 3 0 1 = 1000", "undo 3 = 1", "nearest 3 1 1 0 0 1 = 1", "within 3 1 1 0 0 2 = 2", "pairs 3 0 = 2",
                "witness 3 0 0 0 0 1 = 9", "lay 0 0 3 9999 = 1", "lay 0 1 3 0 = 1")
            .run("high 1 1 0", "points 3 = 1", "move 0 0 1 1 0", "points 0 = 1")
            .run("witness 3 0 0 0 0 1 = 9", "check 3 0 0 0 0 1 = -1");
        for (String s : NO_SHELF) {
            edge.refused(refusedOn(s)).refused("shelf " + s + " 0 = 0");
        }
    }

    private static void upTo300() {
        Edge.of("Terms II", "and up to 300 POINTS").in(World.FULL.and("drop 0 7 = 299"))
            .run("put 0 7 255 15 0 1", "count 0 0 = 300", "find 0 7 = 299", "put 0 300 0 0 0 1 = -6")
            .run("sow 0 1 1 = 300", "sow 0 1 1 = -6")
            .in(World.FULL)
            .taken("count 0 0 = 300", "put 3 1 1 1 0 1 = 0", "sow 3 40 1 = 42")
            .refused("put 0 300 0 0 0 1 = -6", "sow 0 1 1 = -6");
    }

    private static void order() {
        Edge.of("Terms II", "in the order of their NUMBERS, then of their NAMES.").in(World.ONE)
            .run("put 0 5 1 1 0 0 = 0", "put 0 9 1 0 0 0 = 0", "put 0 6 1 1 0 0 = 0", "put 0 4 1 1 0 0 = 0",
                "put 0 0 1 2 0 0 = 0", "at 0 0 0 = 9", "at 0 1 0 = 4", "at 0 2 0 = 5", "at 0 3 0 = 6", "at 0 4 0 = 0")
            .run("put 0 9999 0 0 0 0 = 0", "put 0 0 0 0 0 0 = 0", "at 0 0 0 = 0", "at 0 1 0 = 9999");
    }

    private static void namesAndWeights() {
        Edge.of("Terms II", "A POINT has a NAME (0 .. 9999, once on a shelf), a PLACE")
            .run("drop 0 0 = 25", "put 0 0 3 3 0 1 = 2", "find 0 0 = 25")
            .run("put 0 9999 0 0 0 1 = 0", "find 0 9999 = 1", "put 0 9999 1 1 0 1 = -5")
            .run("put 3 5 1 1 0 1 = 0", "find 3 5 = 0", "find 0 5 = 5")
            .refused("put 0 -1 3 3 0 1 = -2", "put 0 10000 3 3 0 1 = -2", "put 0 MIN 3 3 0 1 = -2",
                "put 0 MAX 3 3 0 1 = -2", "put 0 25 3 3 0 1 = -5", "put 0 0 0 0 0 0 = -5");
        Edge.of("Terms II", "a weight (0 .. 1000).")
            .run("put 0 99 0 0 0 0 = 0", "at 0 1 4 = 0").run("put 0 99 0 0 0 1000 = 0", "at 0 1 4 = 1000")
            .refused("put 0 99 0 0 0 -1 = -2", "put 0 99 0 0 0 1001 = -2", "put 0 99 0 0 0 MIN = -2",
                "put 0 99 0 0 0 MAX = -2");
        Edge.of("Terms II", "a weight (0 .. 1000).").in(World.ONE)
            .run("put 0 1 0 0 0 1000 = 0", "put 0 2 0 0 0 1000 = 0", "count 0 2 = 2000", "page 0 0 1 = 2000");
    }

    private static void pagesHold() {
        Edge.of("Terms II", "PAGES, in order, hold 1 to 16 of them each.").in(World.ONE)
            .run(after("put 0 5 0 0 0 0 = 0", 1))
            .in(World.ONE.filled(0, 14))
            .run(after("put 0 15 0 15 0 0 = 0", 16))
            .in(World.ONE.filled(0, 15))
            .run(after("put 0 16 1 0 0 0 = 1", 9, 8))
            .in(World.ONE.filled(0, 23))
            .run(after("put 0 24 1 8 0 0 = 1", 9, 16))
            .in(THIN_BETWEEN)
            .run(after("page 0 1 8 = 16", 16, 1, 15))
            .run(after("put 0 300 15 15 0 0 = 2", 16, 1, 16))
            .run(after("drop 0 17 = 31", 16, 15));
    }

    private static void comesTo() {
        String words = "A POINT that comes goes to the last PAGE whose first POINT is ahead of it (the first PAGE, if none is; "
            + "a new one, if there are none).";
        // Names 10 .. 26 at the numbers 0 .. 16: the second page begins with name 19 at number 9.
        World named = World.ONE;
        for (int i = 0; i < 17; i++) {
            named = named.and("put 0 " + (10 + i) + " " + i / 16 + " " + i % 16 + " 0 0");
        }
        Edge.of("Terms II", words).in(named)
            .run(after("put 0 9 0 9 0 0 = 0", 10, 8))
            .run(after("put 0 27 0 9 0 0 = 1", 9, 9))
            .run(after("put 0 27 0 8 0 0 = 0", 10, 8))
            .run(after("put 0 9 0 0 0 0 = 0", 10, 8))
            .run("put 0 9 0 0 0 0 = 0", "find 0 9 = 0")
            .run(after("put 0 27 15 15 0 0 = 1", 9, 9))
            .in(World.ONE)
            .run(after("put 0 9 15 15 0 0 = 0", 1))
            .in(World.ONE.filled(3, 3).and("drop 0 3 = 0"))
            .run(after("put 0 9 0 0 0 0 = 0", 1));
    }

    private static void parts() {
        Edge.of("Terms II", "A PAGE of 17 PARTS: its first 9 stay, the others are a new PAGE right behind it.")
            .in(World.ONE.filled(0, 15))
            .run("put 0 99 0 7 0 0 = 0", "find 0 99 = 8", "at 0 8 5 = 0", "at 0 9 5 = 1", "page 0 1 8 = 9")
            .run("put 0 99 0 8 0 0 = 1", "find 0 99 = 9", "at 0 8 5 = 0", "at 0 9 5 = 1", "page 0 1 8 = 9")
            .run(after("put 0 99 0 0 0 0 = 0", 9, 8))
            .run(after("put 0 99 15 15 0 0 = 1", 9, 8))
            .run(after("sow 0 1 1 = 17", 9, 8))
            .in(World.ONE.filled(0, 24))
            .run(after("put 0 25 1 9 0 0 = 2", 9, 9, 8))
            .in(THIN_BETWEEN)
            .run(after("put 0 300 0 0 0 0 = 0", 9, 8, 1, 15))
            .in(World.ONE.filled(0, 16))
            .run(after("move 0 0 15 15 0 = 1", 8, 9))
            .in(World.ONE.filled(0, 24))
            .run(after("move 0 0 15 15 0 = 2", 8, 9, 8));
    }

    private static void goesEmpty() {
        Edge.of("Terms II", "A PAGE from which a POINT went: if it is empty it goes").in(THIN_BETWEEN)
            .run(after("drop 0 17 = 31", 16, 15))
            .run(after("drop 0 18", 16, 1, 14))
            .in(THIN_AHEAD).run(after("drop 0 8 = 17", 9, 8))
            .in(THIN_BEHIND).run(after("drop 0 9 = 17", 9, 8))
            .in(World.ONE.filled(4, 4)).run(after("drop 0 4 = 0"))
            .in(World.ONE.filled(4, 5)).run(after("drop 0 4 = 1", 1));
    }

    private static void melts() {
        String behind = "else, if it and the one behind it have 10 or fewer together, they MELT";
        Edge.of("Terms II", behind)
            .in(World.ONE.filled(0, 16).dropped(0, 4)).run(after("drop 0 5 = 11", 3, 8))
            .in(World.ONE.filled(0, 16).dropped(0, 5)).run(after("drop 0 6 = 10", 10))
            .run("drop 0 6 = 10", "at 0 0 0 = 7", "at 0 1 0 = 8", "at 0 2 0 = 9", "at 0 9 0 = 16")
            .in(World.ONE.filled(0, 25).and("drop 0 0").dropped(9, 14)).run(after("drop 0 15 = 18", 8, 10))
            // One that comes makes none melt, though two pages have 10 or 9 together; the next that goes does.
            .in(THIN_BEHIND).run(after("count 0 0 = 18", 9, 8, 1)).run(after("drop 0 8 = 17", 9, 8))
            .in(World.ONE.filled(0, 16).dropped(0, 5)).run(after("move 0 6 15 15 0 = 0", 11));
        Edge.of("Terms II", "else, if it and the one ahead have, these do.")
            .in(World.ONE.filled(0, 16).dropped(12, 16)).run(after("drop 0 11 = 11", 9, 2))
            .in(World.ONE.filled(0, 16).dropped(11, 16)).run(after("drop 0 10 = 10", 10))
            .in(World.ONE.filled(0, 26).and("drop 0 0").dropped(9, 14)).run(after("drop 0 15 = 19", 10, 9))
            .in(World.ONE.filled(0, 26).dropped(9, 14)).run(after("drop 0 15 = 20", 9, 2, 9))
            .in(THIN_AHEAD).run(after("count 0 0 = 18", 1, 9, 8)).run(after("drop 0 9 = 17", 9, 8))
            .run(after("drop 0 25 = 17", 1, 9, 7));
    }

    private static void box() {
        Edge.of("Terms II", "BOX of a PAGE: of each axis the least and the greatest of its POINTS.")
            .taken("page 0 1 2 = 0", "page 0 1 3 = 0", "page 0 1 4 = 0", "page 0 1 5 = 1", "page 0 1 6 = 15",
                "page 0 1 7 = 0", "page 0 2 2 = 1", "page 0 2 3 = 2", "page 0 2 5 = 1", "page 0 2 6 = 9")
            .run("drop 0 18 = 25", "page 0 2 3 = 3", "drop 0 25 = 24", "page 0 2 6 = 8")
            .in(World.RICH.and("shelf 2 1"))
            .run("put 2 1 1 2 3 0 = 0", "page 2 0 2 = 1", "page 2 0 3 = 2", "page 2 0 4 = 3", "page 2 0 5 = 1",
                "page 2 0 6 = 2", "page 2 0 7 = 3", "put 2 2 3 0 0 0", "page 2 0 2 = 1", "page 2 0 3 = 0",
                "page 2 0 4 = 0", "page 2 0 5 = 3", "page 2 0 6 = 2", "page 2 0 7 = 3");
    }

    private static void acts() {
        String words = "ACTS on a shelf (put(), drop(), move(), sow() that were done): of each the latest six can be taken back, "
            + "the latest first.";
        Edge.of("Terms, behind VII", words)
            .in(World.ONE.filled(0, 5))
            .run("count 0 4 = 6", "undo 0 = 5", "undo 0 = 4", "undo 0 = 3", "undo 0 = 2", "undo 0 = 1", "undo 0 = 0",
                "count 0 0 = 0", "count 0 1 = 0", "undo 0 = -1")
            .in(World.ONE.filled(0, 6))
            .run("count 0 4 = 6", "undo 0 = 5", "undo 0 = 4", "undo 0 = 3", "undo 0 = 2", "undo 0 = 1", "undo 0 = 0",
                "count 0 0 = 1", "undo 0 = -1", "count 0 0 = 1", "at 0 0 0 = 0")
            .run("undo 0 = 5", "put 0 50 9 9 0 0 = 0", "count 0 4 = 6", "put 0 51 9 9 0 0 = 0", "count 0 4 = 6")
            .in(World.ONE)
            .run("put 0 1 2 3 0 4 = 0", "count 0 4 = 1", "move 0 1 5 6 0 = 0", "count 0 4 = 2", "drop 0 1 = 0",
                "count 0 4 = 3", "sow 0 9 9 = 9", "count 0 4 = 4", "undo 0 = 3", "count 0 0 = 0", "undo 0 = 2",
                "at 0 0 1 = 5", "at 0 0 4 = 4", "undo 0 = 1", "at 0 0 1 = 2", "undo 0 = 0", "count 0 0 = 0")
            .in(World.ONE.filled(0, 3))
            .alike(World.ONE.filled(0, 3).and("put 0 9 0 0 0 1", "undo 0 = 4"))
            .alike(World.ONE.filled(0, 3).and("drop 0 2", "undo 0 = 4"))
            .alike(World.ONE.filled(0, 3).and("move 0 2 0 0 0", "undo 0 = 4"))
            .alike(World.ONE.filled(0, 3).and("sow 0 40 3", "undo 0 = 4"))
            .in(World.FULL)
            .taken("count 0 4 = 6", "count 3 4 = 2", "count 1 4 = 0", "undo 3 = 1", "undo 0 = 5")
            .refused("undo 1 = -1", "undo 2 = -1");
    }

    private static void promise7() {
        Edge.of("Promise 7", "A shelf is there anew, without POINTS, with a CURVE: true")
            .run("shelf 0 2 = 1", "count 0 0 = 0", "count 0 1 = 0", "count 0 2 = 0", "count 0 3 = 2", "count 0 4 = 0",
                "find 0 0 = -1", "at 0 0 0 = -1", "page 0 0 0 = -1", "put 0 0 9 0 0 1 = -2", "put 0 0 8 0 0 1 = 0")
            .run("count 2 0 = -1", "shelf 2 0 = 1", "count 2 0 = 0", "count 2 3 = 0", "count 0 0 = 26");
        Edge.of("Promise 7", "false if there are none such.")
            .taken("shelf 0 0 = 1", "shelf 3 3 = 1")
            .refused("shelf -1 0 = 0", "shelf 4 0 = 0", "shelf 0 -1 = 0", "shelf 0 4 = 0", "shelf MIN 0 = 0",
                "shelf MAX 0 = 0", "shelf 0 MIN = 0", "shelf 0 MAX = 0", "shelf 2 4 = 0");
        Edge.of("Promise 7", "(What could be taken back of it can't.)")
            .run("count 0 4 = 6", "shelf 0 0 = 1", "count 0 4 = 0", "undo 0 = -1", "count 0 0 = 0", "put 0 3 0 0 0 1 = 0",
                "undo 0 = 0", "count 0 0 = 0", "undo 0 = -1", "count 1 4 = 2");
    }

    private static void promise8() {
        Edge.of("Promise 8", "A POINT comes: the PAGE in which it is then.")
            .taken("put 0 99 0 0 0 1 = 0", "put 0 99 0 8 0 1 = 0", "put 0 99 0 9 0 1 = 1", "put 0 99 1 1 0 1 = 1",
                "put 0 99 1 2 0 1 = 2", "put 0 99 15 15 0 1 = 2");
        Edge.of("Promise 8", "-1 no such shelf (that is there, here and below)")
            .refused(refusedOn("2")).refused("put 2 -1 99 99 99 -1 = -1", "put 4 0 0 0 0 0 = -1", "put -1 0 0 0 0 0 = -1");
        Edge.of("Promise 8", "-2 the NAME, PLACE, weight can't be")
            .taken("put 0 26 15 0 0 0 = 2", "put 0 26 0 15 0 1000 = 1", "put 1 99 3 3 3 0 = 1")
            .refused("put 0 -1 0 0 0 0 = -2", "put 0 10000 0 0 0 0 = -2", "put 0 26 -1 0 0 0 = -2", "put 0 26 16 0 0 0 = -2",
                "put 0 26 0 -1 0 0 = -2", "put 0 26 0 16 0 0 = -2", "put 0 26 0 0 -1 0 = -2", "put 0 26 0 0 1 0 = -2",
                "put 0 26 0 0 0 -1 = -2", "put 0 26 0 0 0 1001 = -2", "put 1 99 4 3 3 0 = -2", "put 1 99 3 4 3 0 = -2",
                "put 1 99 3 3 4 0 = -2", "put 1 99 3 3 -1 0 = -2", "put 0 25 16 0 0 0 = -2", "put 0 25 0 0 0 1001 = -2")
            .in(World.FULL).refused("put 0 300 0 0 0 1001 = -2", "put 0 299 0 16 0 0 = -2", "put 0 10000 0 0 0 0 = -2");
        Edge.of("Promise 8", "-5 the NAME is there")
            .refused("put 0 0 5 5 0 5 = -5", "put 0 25 5 5 0 5 = -5", "put 0 5 0 5 0 5 = -5")
            .in(World.FULL).refused("put 0 299 0 0 0 0 = -5", "put 0 0 0 0 0 0 = -5", "put 3 9999 0 0 0 0 = -5");
        Edge.of("Promise 8", "-6 there are 300.")
            .in(World.FULL).refused("put 0 300 0 0 0 0 = -6", "put 0 9999 255 15 0 1000 = -6")
            .in(World.FULL.and("drop 0 299 = 299")).run("put 0 9999 0 0 0 0 = 0", "count 0 0 = 300")
            .run("put 0 299 0 0 0 0 = 0", "count 0 0 = 300", "put 0 300 0 0 0 0 = -6", "count 0 0 = 300");
    }

    private static void promises9And10() {
        Edge.of("Promise 9", "A POINT goes: how many are left.")
            .taken("drop 0 0 = 25", "drop 0 25 = 25")
            .in(World.FULL).taken("drop 0 0 = 299", "drop 3 9999 = 1")
            .in(World.ONE.filled(1, 2)).run("drop 0 1 = 1", "drop 0 2 = 0", "drop 0 2 = -1", "count 0 1 = 0");
        Edge.of("Promise 9", "-1 no such shelf, NAME.")
            .refused("drop 0 26 = -1", "drop 0 -1 = -1", "drop 0 9999 = -1", "drop 0 10000 = -1", "drop 0 MIN = -1",
                "drop 0 MAX = -1", "drop 2 0 = -1", "drop 3 0 = -1", "drop 4 0 = -1", "drop -1 0 = -1");
        Edge.of("Promise 10", "A POINT is at another PLACE (it goes, then it comes): the PAGE in which it is then.")
            .run(after("move 0 0 15 15 0 = 2", 8, 9, 9))
            .run("move 0 7 15 15 0 = 2", "find 0 7 = 25", "at 0 25 1 = 15", "at 0 25 2 = 15", "at 0 25 4 = 7")
            .run(after("move 0 9 0 8 0 = 0", 10, 8, 8))
            .in(World.ONE.filled(0, 15)).run(after("move 0 0 15 15 0 = 0", 16)).run(after("move 0 5 0 5 0 = 0", 16))
            .in(World.ONE.filled(4, 4)).run(after("move 0 4 9 9 0 = 0", 1))
            .in(World.ONE.filled(0, 16).dropped(11, 16)).run(after("move 0 10 15 15 0 = 0", 11))
            .in(THIN_BETWEEN).run(after("move 0 17 1 1 0 = 1", 9, 8, 15))
            .in(World.FULL).run("move 0 0 255 15 0", "find 0 0 = 299", "count 0 0 = 300");
        Edge.of("Promise 10", "-1 no such shelf, NAME")
            .refused("move 2 0 1 1 0 = -1", "move 4 0 1 1 0 = -1", "move -1 0 1 1 0 = -1", "move 0 26 1 1 0 = -1",
                "move 0 -1 1 1 0 = -1", "move 0 10000 1 1 0 = -1", "move 3 0 1 1 0 = -1", "move 0 26 16 1 0 = -1",
                "move 2 0 16 1 0 = -1");
        Edge.of("Promise 10", "-2 the PLACE can't be.")
            .taken("move 0 3 15 0 0 = 2", "move 0 3 0 15 0 = 1", "move 0 3 0 0 0 = 0")
            .refused("move 0 3 -1 0 0 = -2", "move 0 3 16 0 0 = -2", "move 0 3 0 -1 0 = -2", "move 0 3 0 16 0 = -2",
                "move 0 3 0 0 -1 = -2", "move 0 3 0 0 1 = -2", "move 1 1 4 0 0 = -2", "move 1 1 0 4 0 = -2",
                "move 1 1 0 0 4 = -2", "move 1 1 0 0 -1 = -2", "move 0 3 MIN MAX 0 = -2")
            .in(World.FULL).refused("move 0 0 256 0 0 = -2", "move 0 0 0 16 0 = -2");
    }

    private static void promise11() {
        Edge.of("Promise 11", "n (1 .. 40) POINTS come, one behind the other")
            .taken("sow 0 1 1 = 27", "sow 0 40 1 = 66", "sow 3 40 1 = 40", "sow 3 1 1 = 1")
            .refused("sow 0 0 1 = -2", "sow 0 41 1 = -2", "sow 0 -1 1 = -2", "sow 0 MIN 1 = -2", "sow 0 MAX 1 = -2")
            .run("sow 0 40 1 = 66", "undo 0 = 5", "count 0 0 = 26");
        Edge.of("Promise 11", "the NAME is the least that is free.")
            .run("drop 0 3 = 25", "sow 0 2 9 = 27", "find 0 3 = 25", "find 0 26 = 26", "find 0 27 = -1")
            .in(World.ONE.and("put 0 0 0 0 0 0", "put 0 9999 0 0 0 0", "put 0 2 0 0 0 0"))
            .run("sow 0 2 9 = 5", "find 0 1 = 3", "find 0 3 = 4", "find 0 4 = -1")
            .in(World.ONE.and("put 0 299 0 0 0 0", "put 0 300 0 0 0 0", "put 0 301 0 0 0 0", "put 0 302 0 0 0 0"))
            .run("sow 0 2 9 = 6", "find 0 0 = 4", "find 0 1 = 5")
            .in(World.FULL.and("drop 0 299", "drop 0 0", "put 0 9999 0 0 0 0"))
            .run("find 0 0 = -1", "sow 0 1 1 = 300", "find 0 299 = -1", "drop 0 9999 = 299", "sow 0 1 1 = 300",
                "drop 0 0 = 299", "drop 0 299 = 298");
        Edge.of("Promise 11", "How many POINTS there are then. -1; -2 n; -6 there would be more than 300.")
            .in(World.FULL.and("drop 0 0", "drop 0 1 = 298"))
            .taken("sow 0 1 5 = 299", "sow 0 2 5 = 300")
            .refused("sow 0 3 5 = -6", "sow 0 40 5 = -6", "sow 0 41 5 = -2", "sow 0 0 5 = -2")
            .in(World.FULL)
            .refused("sow 0 1 1 = -6", "sow 0 40 1 = -6", "sow 0 41 1 = -2", "sow 0 0 1 = -2", "sow 4 0 1 = -1",
                "sow -1 41 1 = -1")
            .in(World.RICH).refused("sow 2 1 1 = -1", "sow 2 0 1 = -1", "sow 2 41 1 = -1");
    }

    private static void sowDraws() {
        World flat = World.ONE;
        World deep = World.BARE.and("curve 4 3 2 1 3 = 0", "shelf 0 0 = 1");
        World great = World.BARE.and("curve 1 3 20 0 0 = 0", "shelf 0 0 = 1");
        String[] words = {"g becomes 1103515245 g + 12345 (an int, it wraps; seed at first) ahead of each of x, y (, z), weight",
            "the axis is (g >>> 8) % what it can be, the weight (g >>> 8) % 101"};
        for (String sentence : words) {
            Edge.of("Promise 11", sentence).in(flat)
                .run(drawn("0", 0, 6, 0, 3)).run(drawn("1", 14, 0, 0, 21)).run(drawn("-1", 1, 12, 0, 82))
                .run(drawn("MAX", 1, 12, 0, 34)).run(drawn("MIN", 0, 6, 0, 51))
                .in(deep)
                .run(drawn("0", 0, 0, 7, 74)).run(drawn("1", 2, 0, 4, 52)).run(drawn("-1", 1, 0, 3, 96))
                .run(drawn("MAX", 1, 0, 3, 43)).run(drawn("MIN", 0, 0, 7, 21))
                .in(great)
                .run(drawn("-1", 932321, 80252, 427627, 96)).run(drawn("MIN", 48, 252950, 459815, 21));
        }
    }

    private static String[] drawn(String seed, int x, int y, int z, int weight) {
        return new String[] {"sow 0 1 " + seed + " = 1", "at 0 0 0 = 0", "at 0 0 1 = " + x, "at 0 0 2 = " + y,
            "at 0 0 3 = " + z, "at 0 0 4 = " + weight};
    }

    private static void promises12To14() {
        Edge.of("Promise 12", "its place in order, from 0 on; NONE.")
            .taken("find 0 0 = 0", "find 0 25 = 25")
            .refused("find 0 26 = -1", "find 0 -1 = -1", "find 0 9999 = -1", "find 0 10000 = -1", "find 0 MIN = -1",
                "find 0 MAX = -1", "find 3 0 = -1", "find 2 0 = -1", "find 4 0 = -1", "find -1 0 = -1")
            .in(World.FULL).taken("find 3 0 = 0", "find 3 9999 = 1");
        Edge.of("Promise 13", "0 NAME, 1 x, 2 y, 3 z, 4 weight, 5 its PAGE.")
            .taken("at 0 17 0 = 17", "at 0 17 1 = 1", "at 0 17 2 = 1", "at 0 17 3 = 0", "at 0 17 4 = 17", "at 0 17 5 = 1",
                "at 0 18 5 = 2")
            .refused("at 0 17 -1 = -1", "at 0 17 6 = -1", "at 0 17 MIN = -1", "at 0 17 MAX = -1");
        Edge.of("Promise 13", "NONE if there is none such.")
            .taken("at 0 0 0 = 0", "at 0 25 0 = 25")
            .refused("at 0 -1 0 = -1", "at 0 26 0 = -1", "at 0 MIN 0 = -1", "at 0 MAX 0 = -1", "at 2 0 0 = -1",
                "at 3 0 0 = -1", "at -1 0 0 = -1", "at 4 0 0 = -1")
            .in(World.FULL).taken("at 3 1 4 = 1000").refused("at 0 300 0 = -1", "at 3 2 0 = -1");
        Edge.of("Promise 14", "0 POINTS, 1 PAGES, 2 sum of weights, 3 its CURVE, 4 ACTS that can be taken back.")
            .taken("count 0 0 = 26", "count 0 1 = 3", "count 0 2 = 325", "count 0 3 = 0", "count 0 4 = 6", "count 3 0 = 0",
                "count 3 1 = 0", "count 3 2 = 0", "count 3 3 = 2", "count 3 4 = 0", "count 1 4 = 2")
            .refused("count 0 -1 = -1", "count 0 5 = -1", "count 0 MIN = -1", "count 0 MAX = -1", "count 3 5 = -1");
        Edge.of("Promise 14", "NONE if there is none such.")
            .refused("count 2 0 = -1", "count -1 0 = -1", "count 4 0 = -1", "count 2 3 = -1", "count 2 4 = -1",
                "count 4 5 = -1");
    }

    private static void promises15And16() {
        Edge.of("Promise 15", "0 POINTS, 1 sum of weights, 2 to 4 the least x, y, z of its BOX, 5 to 7 the greatest, 8 its first "
                + "POINT's place in order.")
            .taken("page 0 2 0 = 8", "page 0 2 1 = 172", "page 0 2 2 = 1", "page 0 2 3 = 2", "page 0 2 4 = 0",
                "page 0 2 5 = 1", "page 0 2 6 = 9", "page 0 2 7 = 0", "page 0 2 8 = 18", "page 0 0 8 = 0")
            .refused("page 0 2 -1 = -1", "page 0 2 9 = -1", "page 0 2 MIN = -1", "page 0 2 MAX = -1");
        Edge.of("Promise 15", "NONE if there is none such.")
            .taken("page 0 0 0 = 9", "page 0 2 0 = 8")
            .refused("page 0 -1 0 = -1", "page 0 3 0 = -1", "page 0 MIN 8 = -1", "page 0 MAX 8 = -1", "page 3 0 0 = -1",
                "page 2 0 0 = -1", "page -1 0 0 = -1", "page 4 0 0 = -1");
        Edge.of("Promise 16", "The latest ACT on a shelf is taken back: how many more can be")
            .run("undo 0 = 5", "count 0 4 = 5", "find 0 25 = -1", "find 0 24 = 24", "count 0 1 = 2")
            .run("undo 1 = 1", "undo 1 = 0", "count 1 0 = 0", "undo 1 = -1");
        Edge.of("Promise 16", "NONE if there is none.")
            .refused("undo 3 = -1", "undo 2 = -1", "undo -1 = -1", "undo 4 = -1", "undo MIN = -1", "undo MAX = -1")
            .in(World.ONE).refused("undo 0 = -1")
            .in(World.ONE.filled(0, 6).and("undo 0", "undo 0", "undo 0", "undo 0", "undo 0", "undo 0 = 0"))
            .refused("undo 0 = -1")
            .in(World.ONE.and("put 0 -1 0 0 0 0 = -2", "drop 0 0 = -1", "move 0 0 1 1 0 = -1", "sow 0 0 1 = -2"))
            .refused("undo 0 = -1");
    }
}
