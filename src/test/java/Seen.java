import java.util.ArrayList;
import java.util.Arrays;
import java.util.List;
import java.util.function.Supplier;

/**
 * All that can be asked of an object, and what it answers. The questions stand in rows, each row for an object of its
 * own, so that no object is called more often than the document allows.
 */
final class Seen {
    private static final int MOST_CALLS = 512;
    private static final int IN_A_ROW = 400;
    private static final List<List<Call>> QUESTIONS = questions();

    private final long[][] answers = new long[QUESTIONS.size()][];

    private Seen() {
    }

    /** Asks objects that are all made in the same way, with so many calls. */
    static Seen of(Supplier<CurveShelf> made, int calls) {
        Seen seen = new Seen();
        for (int r = 0; r < seen.answers.length; r++) {
            List<Call> row = QUESTIONS.get(r);
            if (calls + row.size() > MOST_CALLS) {
                throw new IllegalStateException(calls + " calls leave no room for " + row.size());
            }
            CurveShelf x = made.get();
            seen.answers[r] = new long[row.size()];
            for (int i = 0; i < row.size(); i++) {
                seen.answers[r][i] = row.get(i).answerOf(x);
            }
        }
        return seen;
    }

    /** The first question that the other answers otherwise, with both answers; null if there is none. */
    String firstOther(Seen other) {
        for (int r = 0; r < answers.length; r++) {
            int i = Arrays.mismatch(answers[r], other.answers[r]);
            if (i >= 0) {
                return QUESTIONS.get(r).get(i).text + ": was " + answers[r][i] + ", is " + other.answers[r][i];
            }
        }
        return null;
    }

    private static List<List<Call>> questions() {
        List<List<Call>> all = new ArrayList<>();
        List<String> plain = new ArrayList<>();
        askCurves(plain);
        askShelves(plain);
        askTold(plain);
        askRack(plain);
        for (int i = 0; i < plain.size(); i += IN_A_ROW) {
            all.add(rows(plain.subList(i, Math.min(plain.size(), i + IN_A_ROW))));
        }
        all.add(rows(newCurves()));
        all.add(rows(windows()));
        for (int s = 0; s < 4; s++) {
            all.add(rows(undone(s)));
        }
        all.add(rows(imaged(0)));
        all.add(rows(imaged(1)));
        return all;
    }

    private static List<Call> rows(List<String> texts) {
        List<Call> rows = new ArrayList<>();
        for (String text : texts) {
            rows.add(Call.of(text));
        }
        return rows;
    }

    private static void askCurves(List<String> to) {
        for (int c = 0; c <= 8; c++) {
            to.add("size " + c);
            to.add("number " + c + " 1 1 0");
            to.add("number " + c + " 0 1 1");
            to.add("number " + c + " 3 1 0");
            to.add("place " + c + " 5 0");
            to.add("place " + c + " 5 1");
            to.add("place " + c + " 5 2");
            to.add("mean " + c + " 2 1 2 1");
        }
    }

    private static void askShelves(List<String> to) {
        for (int s = 0; s < 4; s++) {
            for (int what = 0; what < 5; what++) {
                to.add("count " + s + " " + what);
            }
            for (int k = 0; k < 36; k++) {
                for (int what = 0; what < 9; what++) {
                    to.add("page " + s + " " + k + " " + what);
                }
            }
            for (int i = 0; i <= 300; i++) {
                for (int what = 0; what < 6; what++) {
                    to.add("at " + s + " " + i + " " + what);
                }
            }
        }
    }

    private static void askTold(List<String> to) {
        to.add("beyond");
        for (int i = 0; i <= 200; i++) {
            to.add("span " + i + " 0");
            to.add("span " + i + " 1");
        }
        for (int what = 0; what < 3; what++) {
            to.add("spent " + what);
        }
        for (int i = 0; i <= 300; i++) {
            to.add("found " + i + " 0");
            to.add("found " + i + " 1");
        }
        for (int i = 0; i <= 9 * 36; i++) {
            to.add("out " + i);
        }
    }

    private static void askRack(List<String> to) {
        for (int k = 0; k < 8; k++) {
            for (int as = 0; as < 6; as++) {
                to.add("ask " + k + " " + as);
            }
        }
    }

    private static List<String> newCurves() {
        List<String> to = new ArrayList<>();
        for (int i = 0; i <= 8; i++) {
            to.add("curve 1 2 2 0 0");
        }
        askCurves(to);
        return to;
    }

    private static List<String> windows() {
        List<String> to = new ArrayList<>();
        for (int c = 0; c < 8; c++) {
            to.add("jump " + c + " -1");
            to.add("jump " + c + " 20");
        }
        to.add("few 1");
        to.add("beyond");
        for (int c = 0; c < 8; c++) {
            to.add("spans " + c);
            to.add("span 0 0");
            to.add("span 0 1");
            to.add("span 3 0");
        }
        for (int s = 0; s < 4; s++) {
            to.add("points " + s);
            to.add("spent 1");
            to.add("spent 2");
            to.add("found 1 0");
        }
        // Each corner once more with the other one set anew: a corner that no curve has is seen by it.
        to.add("high 3 3 0");
        to.add("jump 0 -1");
        to.add("low 0 0 0");
        to.add("jump 0 -1");
        return to;
    }

    private static List<String> undone(int s) {
        List<String> to = new ArrayList<>();
        for (int i = 0; i < 7; i++) {
            to.add("undo " + s);
            for (int what = 0; what < 5; what++) {
                to.add("count " + s + " " + what);
            }
            for (int k = 0; k < 36; k += 3) {
                to.add("page " + s + " " + k + " 0");
                to.add("page " + s + " " + k + " 1");
            }
            for (int p = 0; p < 24; p += 3) {
                to.add("at " + s + " " + p + " 0");
            }
        }
        return to;
    }

    private static List<String> imaged(int place) {
        List<String> to = new ArrayList<>();
        to.add("back " + place);
        for (int s = 0; s < 4; s++) {
            for (int what = 0; what < 5; what++) {
                to.add("count " + s + " " + what);
            }
            to.add("at " + s + " 3 0");
            to.add("page " + s + " 1 1");
        }
        for (int i = 0; i < 5; i++) {
            to.add("span " + i + " 1");
            to.add("found " + i + " 0");
        }
        to.add("beyond");
        to.add("spent 2");
        askCurves(to);
        askRack(to);
        to.addAll(windows());
        return to;
    }
}
