import java.util.ArrayList;
import java.util.List;

/**
 * Every argument of every method at every number at which something might end, the others at home: no call throws,
 * whatever the state, and where the Model can follow the answer is its answer, then and afterwards.
 */
public final class ExtremesTest {
    private static final String[] NUMBERS = {"MIN", "-10000", "-2", "-1", "0", "1", "2", "3", "4", "5", "6", "7", "8", "9", "10",
        "12", "13", "15", "16", "17", "20", "21", "25", "26", "27", "40", "41", "63", "64", "65", "80", "81", "199", "200",
        "201", "255", "256", "299", "300", "301", "1000", "1001", "9999", "10000", "1048575", "1048576", "MAX"};
    private static final String[] CALLS = {"curve 0 2 4 4 0", "curve 4 3 2 1 3", "curve 2 3 2 0 0", "curve 3 2 2 0 0",
        "number 0 5 5 0", "number 1 1 1 1", "number 3 1 1 1", "place 0 17 1", "place 1 17 2", "size 0", "gap 0 0 5",
        "gap 2 40 20", "shelf 0 1", "put 0 99 3 3 0 5", "put 1 99 1 1 1 5", "put 0 3 3 3 0 5", "drop 0 3", "move 0 3 5 5 0",
        "move 1 3 1 1 1", "sow 0 5 5", "find 0 3", "at 0 3 2", "at 1 3 3", "count 0 1", "page 0 1 3", "page 1 1 7", "undo 0",
        "low 1 1 0", "high 1 2 0", "spans 0", "span 0 1", "few 1", "jump 0 5", "jump 1 5", "points 0", "nearest 0 3 3 0 1 3",
        "nearest 1 1 1 1 2 3", "within 0 3 3 0 1 3", "within 1 1 1 1 2 3", "pairs 0 1", "found 1 1", "spent 1",
        "mean 0 4 2 2 1", "mean 2 4 2 2 3", "compare 0 2 4 2 2", "witness 0 3 3 0 1 3", "witness 1 1 1 1 2 3", "out 3",
        "forge 3 3", "check 0 0 4 0 2 3", "lay 0 0 0 3", "lay 0 1 0 1", "lay 0 2 0 1", "ask 0 1", "ask 1 3", "image 0",
        "back 0"};
    private static final String[] AFTERWARDS = {"count 0 0", "count 0 1", "count 0 2", "count 0 4", "count 1 0", "count 1 4",
        "count 2 0", "count 3 3", "find 0 3", "at 0 20 5", "page 0 1 0", "size 3", "size 4", "beyond", "span 0 1", "span 1 0",
        "spent 0", "spent 1", "spent 2", "found 0 0", "found 1 1", "out 0", "out 3", "out 26", "ask 0 0", "ask 0 2", "ask 0 4",
        "ask 1 3", "jump 0 -1", "spans 0", "span 1 1", "points 0", "undo 0", "count 0 0", "back 0", "count 0 0", "back 1"};

    private ExtremesTest() {
    }

    public static void main(String[] args) {
        for (String call : CALLS) {
            for (String extreme : extremesOf(call)) {
                againstModel(extreme);
                for (World world : new World[] {World.BARE, World.ONE, World.FULL}) {
                    Call.of(extreme).answerOf(world.made());
                    Due.is(extreme + " ends", true, true);
                }
            }
        }
        Due.end();
    }

    private static List<String> extremesOf(String call) {
        List<String> all = new ArrayList<>();
        String[] words = call.split(" ");
        for (int i = 1; i < words.length; i++) {
            String home = words[i];
            for (String number : NUMBERS) {
                words[i] = number;
                all.add(String.join(" ", words));
            }
            words[i] = home;
        }
        return all;
    }

    private static void againstModel(String call) {
        CurveShelf real = World.RICH.made();
        Model model = World.RICH.modelled();
        List<String> rows = new ArrayList<>(List.of(call));
        rows.addAll(List.of(AFTERWARDS));
        for (String row : rows) {
            long due = Call.of(Model.class, row).answerOf(model);
            Due.is(call + ", then " + row, Call.of(row).answerOf(real), due);
        }
    }
}
