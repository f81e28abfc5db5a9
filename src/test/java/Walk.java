import java.io.IOException;
import java.nio.file.Files;
import java.nio.file.Path;

/** The document gone through in its order: each piece of it is named in its place, with cases of its own under it. */
final class Walk {
    /** What is done with an object and a value. */
    interface CallWith {
        int on(BeggingBoards x, int value);
    }

    // The walks join at these headings.
    static final String START = "# BeggingBoards";
    static final String TERMS = "## Terms";
    static final String TICKS = "### A tick";
    static final String STATES = "### Text";
    static final String PROMISES = "## Promise 1:";
    static final String LOOKING = "## Promise 14:";
    static final String END = "";

    private static final Path DOCUMENT = Path.of("../shared/DOC.md");

    private final Check check;
    private final String document;
    private int at;
    private String words = "";
    private int cases = 1;

    Walk(String test, String from, String upTo) throws IOException {
        check = new Check(test);
        String whole = Files.readString(DOCUMENT).replaceAll("\\s+", " ").trim();
        int start = whole.indexOf(from);
        int end = upTo.isEmpty() ? whole.length() : whole.indexOf(upTo);
        boolean isThere = start >= 0 && end > start;
        check.holds("the document has '" + from + "', and after it '" + upTo + "'", isThere);
        document = isThere ? whole.substring(start, end) : "";
    }

    /** Words that ask for nothing. */
    void heading(String next) {
        stepTo(next);
        cases = 1;
    }

    /** Words that cases must follow. */
    void says(String next) {
        stepTo(next);
        cases = 0;
    }

    private void stepTo(String next) {
        check.holds("'" + words + "' has cases of its own", cases > 0);
        words = next;
        int found = document.indexOf(next, at);
        check.holds("the document says '" + next + "' after what was named before", found >= 0);
        if (found >= 0) {
            String between = document.substring(at, found);
            check.holds("no case names '" + between + "'", between.isBlank());
            at = found + next.length();
        }
    }

    void due(String call, int got, int want) {
        cases++;
        check.due("'" + words + "': " + call, got, want);
    }

    void holds(String what, boolean so) {
        due(what, so ? 1 : 0, 1);
    }

    /** A successful call, which leaves the text as it is; the state before it is recorded, and undo restores it. */
    void isAction(Scene scene, String call, Scene.Call it) {
        String name = scene.name + ": " + call;
        BeggingBoards x = scene.make();
        int states = x.count(14);
        int length = x.count(15);
        holds(name + " succeeds", it.on(x) >= 0);
        due(name + ", the states then", x.count(14), Math.min(5, states + 1));
        due(name + ", the text then", x.count(15), length);
        int left = Math.min(4, states);
        String before = scene.ovenAfter(y -> 0, y -> left);
        holds(name + ", undone", scene.ovenAfter(it, BeggingBoards::undo).equals(before));
    }

    void refuses(Scene scene, String call, int error, Scene.Call it) {
        String name = scene.name + ": " + call;
        due(name, it.on(scene.make()), error);
        holds(name + " changes nothing", scene.toldAfter(it).equals(scene.told()));
    }

    /** What lies just outside of a range is refused, and so are the smallest and the greatest int. */
    void outside(Scene scene, String call, int least, int most, CallWith it) {
        int[] values = {least - 1, most + 1, Integer.MIN_VALUE, Integer.MAX_VALUE};
        for (int value : values) {
            refuses(scene, call + " with " + value, BeggingBoards.INVALID_ARGUMENT, x -> it.on(x, value));
        }
    }

    void end() {
        check.holds("'" + words + "' has cases of its own", cases > 0);
        String rest = document.substring(at);
        check.holds("no case names '" + rest + "'", rest.isBlank());
        check.end();
    }
}
