import java.util.ArrayList;
import java.util.List;

/** The edges of Terms III and of the promises 17 to 23. */
final class WindowEdges {
    private WindowEdges() {
    }

    static void all() {
        atFirst();
        ofACurve();
        noneOfACurve();
        fewestSpans();
        melted();
        promises17And18();
        promise19();
        promise20();
        promises21And22();
        promise23();
    }

    /** The calls that tell a window's corners, then some more. */
    private static String[] window(String low, String high, String... more) {
        List<String> rows = new ArrayList<>(List.of("low " + low, "high " + high));
        rows.addAll(List.of(more));
        return rows.toArray(new String[0]);
    }

    private static void atFirst() {
        Edge.of("Terms III", "THE WINDOW is two corners, told once for all (0 0 0 and 0 0 0 at first): all PLACES with each axis "
                + "from the low one to the high one.")
            .in(World.ONE.and("curve 2 3 2 0 0 = 1", "put 0 4 0 0 0 1 = 0", "put 0 5 0 1 0 1 = 0"))
            .taken("spans 0 = 1", "spans 1 = 1", "jump 0 -1 = 0", "jump 1 -1 = 0", "points 0 = 1")
            .refused("jump 0 0 = -1", "jump 1 0 = -1")
            .run("spans 0 = 1", "span 0 0 = 0", "span 0 1 = 0")
            .run("high 0 1 0", "spans 0 = 1", "span 0 1 = 1", "jump 0 0 = 1", "jump 0 1 = -1", "points 0 = 2",
                "spans 1 = 2", "span 1 1 = 7", "low 0 1 0", "spans 1 = 1", "span 0 0 = 7", "jump 0 -1 = 1",
                "points 0 = 1", "found 0 0 = 5");
    }

    private static void ofACurve() {
        Edge.of("Terms III", "It is of a CURVE, if on each axis low is not above high and both are wholes of it (of z 0, with "
                + "D = 2).")
            .run(window("0 0 0", "15 15 0", "spans 0 = 1", "span 0 1 = 255", "jump 0 254 = 255", "points 0 = 26"))
            .run(window("5 5 0", "5 5 0", "spans 0 = 1", "span 0 0 = 85", "jump 0 -1 = 85", "points 0 = 0"))
            .run(window("15 15 0", "15 15 0", "spans 0 = 1", "span 0 0 = 255", "jump 0 -1 = 255"))
            .run(window("0 0 0", "3 3 3", "spans 1 = 1", "span 0 1 = 63", "points 1 = 20"))
            .run(window("3 3 3", "3 3 3", "spans 1 = 1", "span 0 0 = 43"))
            .run(window("1 1 1", "1 1 1", "spans 1 = 1", "spans 3 = 1", "span 0 0 = 7"))
            .run(window("0 0 0", "8 8 0", "spans 2 = 1", "span 0 1 = 80"))
            .run(window("0 0 0", "3 1 7", "spans 3 = 1", "span 0 1 = 63"));
    }

    private static void noneOfACurve() {
        String words = "low is not above high and both are wholes of it (of z 0, with D = 2).";
        String[][] flat = {{"6 5 0", "5 5 0"}, {"5 6 0", "5 5 0"}, {"-1 0 0", "5 5 0"}, {"0 -1 0", "5 5 0"},
            {"0 0 0", "16 5 0"}, {"0 0 0", "5 16 0"}, {"0 0 1", "5 5 1"}, {"0 0 0", "5 5 1"}, {"0 0 -1", "5 5 0"},
            {"0 0 -1", "5 5 -1"}, {"16 16 0", "16 16 0"}, {"MIN 0 0", "MAX 5 0"}, {"0 0 MIN", "5 5 MAX"}};
        for (String[] w : flat) {
            Edge.of("Terms III", words).in(World.RICH.and(window(w[0], w[1])))
                .refused("spans 0 = -1", "jump 0 -1 = -1", "points 0 = -1");
        }
        String[][] deep = {{"3 2 2", "2 2 2"}, {"2 3 2", "2 2 2"}, {"2 2 3", "2 2 2"}, {"-1 0 0", "2 2 2"},
            {"0 0 -1", "2 2 2"}, {"0 0 0", "4 3 3"}, {"0 0 0", "3 4 3"}, {"0 0 0", "3 3 4"}};
        for (String[] w : deep) {
            Edge.of("Terms III", words).in(World.RICH.and(window(w[0], w[1])))
                .refused("spans 1 = -1", "jump 1 -1 = -1", "points 1 = -1");
        }
        Edge.of("Terms III", words).in(World.RICH.and(window("0 0 0", "9 8 0"))).refused("spans 2 = -1", "points 3 = -1")
            .in(World.RICH.and(window("0 0 0", "3 2 7"))).refused("spans 3 = -1", "jump 3 -1 = -1");
    }

    private static void fewestSpans() {
        Edge.of("Terms III", "Its SPANS are the fewest rows of NUMBERS without a gap that are together just the NUMBERS of its "
                + "PLACES, in order.")
            .run(window("3 0 0", "5 15 0", "spans 0 = 1", "span 0 0 = 48", "span 0 1 = 95"))
            .run(window("3 0 0", "5 14 0", "spans 0 = 3", "span 0 0 = 48", "span 0 1 = 62", "span 2 1 = 94"))
            .run(window("3 1 0", "5 15 0", "spans 0 = 3", "span 1 0 = 65", "span 1 1 = 79"))
            // TURNING: the octants 0, 1, 2 and 3 are those with z below 2.
            .run(window("0 0 0", "3 3 1", "spans 1 = 1", "span 0 0 = 0", "span 0 1 = 31"))
            .run(window("0 0 2", "3 3 3", "spans 1 = 1", "span 0 0 = 32", "span 0 1 = 63"))
            .run(window("0 0 0", "1 3 3", "spans 1 = 2", "span 0 1 = 15", "span 1 0 = 48", "span 1 1 = 63"))
            // SNAIL ends a nine where the next one begins.
            .run(window("0 0 0", "2 8 0", "spans 2 = 1", "span 0 1 = 26"))
            .run(window("0 0 0", "2 3 0", "spans 2 = 2", "span 0 1 = 9", "span 1 0 = 14", "span 1 1 = 15"));
    }

    private static void melted() {
        String words = "MELTED to n: again and again, as long as there are more than n, the two neighbours with the fewest NUMBERS "
            + "between them become one (of several the first ones).";
        // WOVEN of 4 by 4, x up to 2, y from 1: the numbers 1, 3 .. 7, 9, 12 and 13.
        World gaps = World.BARE.and("curve 1 2 2 0 0 = 0").and(window("0 1 0", "2 3 0")).and("spans 0 = 4");
        Edge.of("Terms III", words).in(gaps)
            .run("few 4 = 4", "span 0 1 = 1", "span 3 0 = 12")
            .run("few 3 = 3", "span 0 0 = 1", "span 0 1 = 7", "span 1 0 = 9", "span 1 1 = 9", "span 2 0 = 12")
            .run("few 2 = 2", "span 0 1 = 9", "span 1 0 = 12", "span 1 1 = 13", "span 2 0 = -1")
            .run("few 1 = 1", "span 0 0 = 1", "span 0 1 = 13", "span 1 0 = -1")
            .run("few 3 = 3", "few 1 = 1", "few 2 = 1")
            // x from 1, y up to 2: the numbers 2 and 3, 6, 8 .. 12, 14; the least gaps come later.
            .in(World.BARE.and("curve 1 2 2 0 0 = 0").and(window("1 0 0", "3 2 0")).and("spans 0 = 4"))
            .run("few 3 = 3", "span 0 1 = 3", "span 1 0 = 6", "span 1 1 = 12", "span 2 0 = 14")
            .run("few 2 = 2", "span 0 1 = 3", "span 1 0 = 6", "span 1 1 = 14", "beyond = 2")
            .run("few 3 = 3", "few 2 = 2", "span 1 1 = 14", "few 1 = 1", "span 0 0 = 2", "span 0 1 = 14")
            .in(World.RICH.and("spans 0 = 3"))
            .run("few 2 = 2", "span 0 0 = 1", "span 0 1 = 19", "span 1 0 = 33", "span 1 1 = 35")
            .in(World.FULL)
            .run("few 199 = 199", "span 0 1 = 18", "span 1 0 = 32", "span 198 1 = 3186", "span 199 0 = -1")
            .run("few 100 = 100", "span 0 1 = 1602", "span 1 0 = 1616", "span 99 0 = 3184");
    }

    private static void promises17And18() {
        Edge.of("Promise 17", "THE WINDOW's low corner (any wholes).")
            .taken("low MIN MIN MIN = 0", "low MAX MAX MAX = 0", "low -1 0 0 = 0")
            .run("low MIN MAX -1", "spans 0 = -1", "jump 0 -1 = -1", "points 0 = -1", "span 0 1 = 19", "low 0 1 0",
                "spans 0 = 3", "span 2 1 = 35")
            .run("low 2 3 0", "spans 0 = 1", "span 0 0 = 35", "span 0 1 = 35");
        Edge.of("Promise 18", "Its high corner.")
            .taken("high MIN MIN MIN = 0", "high MAX MAX MAX = 0", "high 16 16 0 = 0")
            .run("high MAX MIN 1", "spans 0 = -1", "jump 0 -1 = -1", "points 0 = -1", "span 0 1 = 19", "high 2 3 0",
                "spans 0 = 3", "span 2 1 = 35")
            .run("high 0 1 0", "spans 0 = 1", "span 0 0 = 1", "span 0 1 = 1");
    }

    private static void promise19() {
        Edge.of("Promise 19", "How many SPANS THE WINDOW has on a CURVE, which are told then")
            .run("spans 0 = 3", "span 0 0 = 1", "span 2 1 = 35", "span 3 0 = -1", "spans 1 = 5", "span 0 0 = 6",
                "spans 2 = 3", "span 0 0 = 1", "span 2 1 = 15");
        Edge.of("Promise 19", "NONE if there is no such CURVE, or it is none of it")
            .refused("spans 4 = -1", "spans -1 = -1", "spans MIN = -1", "spans MAX = -1", "spans 3 = -1")
            .in(World.FULL).refused("spans 8 = -1", "spans 7 = -1", "spans 1 = -1");
        String words = "-2 if there are more than 200 (the SPANS told stay).";
        Edge.of("Promise 19", words)
            .in(World.FULL).taken("spans 0 = 200")
            .in(World.FULL.and("high 200 2 0")).refused("spans 0 = -2")
            .run("spans 0 = -2", "span 199 1 = 3186", "beyond = 0", "few 7 = 7")
            .in(World.FULL.and(window("56 1 0", "255 15 0"))).run("spans 0 = 200", "span 199 1 = 4095")
            .in(World.FULL.and(window("55 1 0", "255 15 0"))).refused("spans 0 = -2")
            .in(World.FULL.and(window("0 0 0", "255 15 0"))).run("spans 0 = 1", "span 0 1 = 4095", "span 1 0 = -1")
            .in(World.FULL.and(window("1 1 1", "1048574 1048574 1048574"))).refused("spans 6 = -2")
            .in(World.FULL.and(window("1 1 1", "1048574 1048574 1048574", "few 3"))).refused("spans 6 = -2");
    }

    private static void promise20() {
        Edge.of("Promise 20", "The first (which 0) or last (1) NUMBER of SPAN i that is told")
            .taken("span 0 0 = 1", "span 0 1 = 19", "span 1 0 = 33", "span 1 1 = 35")
            .refused("span 0 -1 = -1", "span 0 2 = -1", "span 0 MIN = -1", "span 0 MAX = -1");
        Edge.of("Promise 20", "NONE if there is none such.")
            .refused("span -1 0 = -1", "span 2 0 = -1", "span 2 1 = -1", "span MIN 0 = -1", "span MAX 1 = -1")
            .in(World.FULL).taken("span 199 0 = 3184").refused("span 200 0 = -1", "span 200 1 = -1")
            .in(World.BARE).refused("span 0 0 = -1", "span 0 1 = -1");
    }

    private static void promises21And22() {
        Edge.of("Promise 21", "The SPANS that are told are MELTED to n (1 or more): how many are told then")
            .taken("few 1 = 1", "few 2 = 2", "few 3 = 2", "few MAX = 2")
            .in(World.FULL).taken("few 1 = 1", "few 199 = 199", "few 200 = 200", "few 201 = 200")
            .in(World.BARE).taken("few 1 = 0", "few MAX = 0");
        Edge.of("Promise 21", "NONE for another n.")
            .refused("few 0 = -1", "few -1 = -1", "few MIN = -1")
            .in(World.FULL).refused("few 0 = -1")
            .in(World.BARE).refused("few 0 = -1");
        Edge.of("Promise 22", "NUMBERS of the SPANS that are told, less those of PLACES in the window whose SPANS they were (0 "
                + "without any).")
            .taken("beyond = 13")
            .run("few 1 = 1", "beyond = 26", "low 5 5 0", "high 6 6 0", "beyond = 26", "spans 4 = -1", "beyond = 26",
                "spans 0 = 2", "beyond = 0")
            .in(World.BARE).taken("beyond = 0").run("few 1 = 0", "beyond = 0")
            .in(World.FULL).taken("beyond = 0").run("few 1 = 1", "beyond = " + (3187 - 600))
            .run("few 1 = 1", "high 200 2 0", "spans 0 = -2", "beyond = " + (3187 - 600));
    }

    private static void promise23() {
        String last = ((1L << 60) - 1) + "";
        Edge.of("Promise 23", "The least NUMBER above a told one (which may be below 0, too) whose PLACE is in THE WINDOW")
            .taken("jump 0 MIN = 1", "jump 0 -2 = 1", "jump 0 -1 = 1", "jump 0 0 = 1", "jump 0 1 = 2", "jump 0 3 = 17",
                "jump 0 16 = 17", "jump 0 19 = 33", "jump 0 34 = 35")
            .run(window("0 0 0", "15 15 0", "jump 0 MIN = 0", "jump 0 -2 = 0", "jump 0 -1 = 0", "jump 0 0 = 1",
                "jump 0 254 = 255", "jump 0 255 = -1"))
            .in(World.FULL.and(window("0 0 1048575", "0 0 1048575")))
            .taken("jump 6 -1 = " + last, "jump 6 0 = " + last, "jump 6 " + ((1L << 60) - 2) + " = " + last)
            .refused("jump 6 " + last + " = -1");
        Edge.of("Promise 23", "NONE without one, no such CURVE, or if it is none of it.")
            .refused("jump 0 35 = -1", "jump 0 36 = -1", "jump 0 255 = -1", "jump 0 256 = -1", "jump 0 MAX = -1",
                "jump 4 -1 = -1", "jump -1 -1 = -1", "jump MIN 0 = -1", "jump MAX 0 = -1", "jump 3 -1 = -1");
    }
}
