import java.io.IOException;
import java.nio.file.Files;
import java.nio.file.Path;
import java.util.TreeSet;

/** Boundary cases, each under the words of the document that name it. */
final class Bounds {
    /** What is done with an object and a value. */
    interface CallWith {
        int on(BeggingBoards x, int value);
    }

    private static final Path DOCUMENT = Path.of("../shared/DOC.md");
    private static final int[] EXTREMES = {Integer.MIN_VALUE, Integer.MAX_VALUE};

    private final Check check;
    private final String[] promises;
    private final TreeSet<Integer> named = new TreeSet<>();
    private final TreeSet<Integer> toBeNamed = new TreeSet<>();
    private String words = "";

    Bounds(String test, int... toBeNamed) throws IOException {
        check = new Check(test);
        promises = Files.readString(DOCUMENT).replaceAll("\\s+", " ").split(" ## Promise ");
        for (int promise : toBeNamed) {
            this.toBeNamed.add(promise);
        }
    }

    /** The words stand in the promise or in the terms that are told ahead of all promises. */
    void sentence(int promise, String words) {
        this.words = "promise " + promise + ", '" + words + "': ";
        boolean isThere = promise < promises.length
                && (promises[promise].contains(words) || promises[0].contains(words));
        check.holds(this.words + "the document says so", isThere);
        named.add(promise);
    }

    void due(String call, int got, int want) {
        check.due(words + call, got, want);
    }

    void holds(String what, boolean so) {
        check.holds(words + what, so);
    }

    /** It answers so, and all that can be told is as it was. */
    void tells(Scene scene, String call, int answer, Scene.Call it) {
        String name = scene.name + ": " + call;
        due(name, it.on(scene.make()), answer);
        holds(name + " changes nothing", scene.toldAfter(it).equals(scene.told()));
    }

    void refuses(Scene scene, String call, int error, Scene.Call it) {
        holds(call + " answers an error", error < 0 && error != BeggingBoards.NONE);
        tells(scene, call, error, it);
    }

    /** An action: it answers so, leaves the text as it is, and records the state before it. */
    void does(Scene scene, String call, int answer, Scene.Call it) {
        String name = scene.name + ": " + call;
        BeggingBoards x = scene.make();
        int states = x.count(14);
        int length = x.count(15);
        due(name, it.on(x), answer);
        due(name + ", the text after it", x.count(15), length);
        recordsOnce(scene, call, states, it);
    }

    void recordsOnce(Scene scene, String call, int states, Scene.Call it) {
        String name = scene.name + ": " + call;
        BeggingBoards x = scene.make();
        it.on(x);
        due(name + ", the states after it", x.count(14), Math.min(5, states + 1));
        int left = Math.min(4, states);
        due(name + ", undo", x.undo(), left);
        String before = scene.ovenAfter(y -> 0, y -> left);
        holds(name + " and undo change nothing", scene.ovenAfter(it, BeggingBoards::undo).equals(before));
    }

    /** The values just outside of a range, and the smallest and the greatest int, are refused. */
    void outside(Scene[] scenes, String call, int least, int most, CallWith it) {
        for (Scene scene : scenes) {
            invalid(scene, call, least - 1, it);
            invalid(scene, call, most + 1, it);
            for (int value : EXTREMES) {
                invalid(scene, call, value, it);
            }
        }
    }

    private void invalid(Scene scene, String call, int value, CallWith it) {
        refuses(scene, call + " with " + value, BeggingBoards.INVALID_ARGUMENT, x -> it.on(x, value));
    }

    void end() {
        check.holds("sentences of the promises " + toBeNamed + " are named: " + named, named.equals(toBeNamed));
        check.end();
    }
}
