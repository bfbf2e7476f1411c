import java.util.Arrays;

/** A sentence of the document that names an edge, quoted word for word, and the calls on both sides of that edge. */
final class Edge {
    private final String sentence;
    private World world = World.RICH;
    private Seen before = null;

    private Edge(String sentence) {
        this.sentence = sentence;
    }

    static Edge of(String section, String words) {
        Document.quote(section, words);
        return new Edge(section + " \"" + words + "\"");
    }

    Edge in(World other) {
        world = other;
        before = null;
        return this;
    }

    /** Each row is a call of its own that is taken, on an object of its own. */
    Edge taken(String... rows) {
        for (String row : rows) {
            answered(row).on(world.made(), sentence);
        }
        return this;
    }

    /** Each row is a call of its own that is refused: whatever is asked afterwards is answered as before. */
    Edge refused(String... rows) {
        if (before == null) {
            before = Seen.of(world::made, world.calls());
        }
        for (String text : rows) {
            Call row = answered(text);
            row.on(world.made(), sentence);
            String other = before.firstOther(Seen.of(() -> madeAnd(row), world.calls() + 1));
            Due.is(sentence + ": " + text + " changes " + other, other == null, true);
        }
        return this;
    }

    /** The rows in this order, on one object. */
    Edge run(String... rows) {
        CurveShelf x = world.made();
        Due.is(sentence + ": a row has an answer", Arrays.stream(rows).anyMatch(r -> Call.of(r).tellsAnswer()), true);
        for (String row : rows) {
            Call.of(row).on(x, sentence);
        }
        return this;
    }

    /** Whatever is asked is answered alike in another world. */
    Edge alike(World other) {
        String first = Seen.of(world::made, world.calls()).firstOther(Seen.of(other::made, other.calls()));
        Due.is(sentence + ": the other world differs in " + first, first == null, true);
        return this;
    }

    private CurveShelf madeAnd(Call row) {
        CurveShelf x = world.made();
        row.answerOf(x);
        return x;
    }

    private static Call answered(String text) {
        Call row = Call.of(text);
        if (!row.tellsAnswer()) {
            throw new IllegalArgumentException(text + " has no answer");
        }
        return row;
    }
}
