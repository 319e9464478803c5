import java.util.List;
import java.util.regex.Pattern;

/**
 * A test for each sentence of the document that names an edge (too small, too large, empty, full, a
 * wrap-around, a refused call): each says which words it is for, which must stand in the document, and
 * at the end no sentence of the document may be left that no test quotes.
 */
public final class EdgesTest {
    /** Sentences that name no edge: what a method is for, and what the sentences around them say. */
    private static final List<Pattern> NO_EDGE = List.of(
            Pattern.compile("`[^`]*`:[^0-9]*"),
            Pattern.compile("It tells when .*|Changes can be undone\\.|Ahead of the calls .*"),
            Pattern.compile("IllegalStateException means what the method says\\."),
            Pattern.compile("Returns (a number|that number|its number|a number of a \\w+|a vehicle of a convoy)\\."),
            Pattern.compile("- `\\w+`: (its kilometer|convoy|vehicle|gate|bay|depot)"),
            Pattern.compile("(```text )?[1-3a-e]\\.|```"));

    public static void main(String[] args) {
        EdgesOfTerms.run();
        EdgesOfAnHour.run();
        EdgesOfText.run();
        EdgesOfWhatThereIs.run();
        EdgesOfActions.run();
        EdgesOfLooksAhead.run();
        EdgesOfScripts.run();
        EdgesOfSlots.run();
        Check.noSentence();
        nothingIsLeftOut("Terms");
        for (int promise = 1; promise <= 29; promise++) {
            nothingIsLeftOut("Promise " + promise);
        }
        Check.end();
    }

    private static void nothingIsLeftOut(String section) {
        for (String sentence : Check.document().unquoted(section)) {
            boolean noEdge = NO_EDGE.stream().anyMatch(p -> p.matcher(sentence).matches());
            Check.due(section + ", tests of \"" + sentence + "\"", noEdge ? 1 : 0, 1);
        }
    }
}
