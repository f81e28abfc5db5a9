import java.io.IOException;
import java.nio.file.Files;
import java.nio.file.Path;
import java.util.ArrayList;
import java.util.List;
import java.util.regex.Matcher;
import java.util.regex.Pattern;

/** The terms of the document from the text up to promise 1: text, snapshots, undo, errors, the interface. */
public final class WalkOfStatesTest {
    private static final int INVALID = BeggingBoards.INVALID_ARGUMENT;
    private static final int ILLEGAL = BeggingBoards.ILLEGAL_STATE;
    private static final int FULL = BeggingBoards.CAPACITY_EXCEEDED;
    private static final int NONE = BeggingBoards.NONE;
    private static final Scene FRESH = Scenes.FRESH;
    private static final Path SOURCE = Path.of("src/main/java/BeggingBoards.java");

    private WalkOfStatesTest() {
    }

    public static void main(String[] args) throws IOException {
        Walk w = new Walk("WalkOfStatesTest", Walk.STATES, Walk.PROMISES);
        text(w);
        snapshots(w);
        undo(w);
        errors(w);
        constants(w);
        interfaceParts(w);
        w.end();
    }

    // ---- text, snapshots, undo

    private static int answerTo(String text) {
        BeggingBoards x = new BeggingBoards();
        Scenes.write(x, text);
        return x.carryOut();
    }

    private static void text(Walk w) {
        w.heading("### Text");
        w.says("There is a text of at most 100 characters, empty at first.");
        BeggingBoards x = new BeggingBoards();
        for (int length = 0; length < 100; length++) {
            w.due("characters", x.count(15), length);
            x.append('p');
        }
        w.due("one more", x.append('p'), FULL);
        w.due("characters", x.count(15), 100);
        w.says("A text of orders is one or more orders with \";\" between two.");
        w.due("one", answerTo("p1"), 1);
        w.due("two", answerTo("p1;s2"), 2);
        w.due("none", answerTo(""), -2000);
        w.due("nothing between two", answerTo("p1s2"), -2002);
        w.due("no order after the last one", answerTo("p1;"), -2003);
        w.due("no order between two", answerTo("p1;;s2"), -2003);
        w.says("An order is \"l\" curve \",\" weight (load), \"p\" ticks (pass), \"t\" board (take off),"
                + " \"s\" speed (set the speed).");
        BeggingBoards y = new BeggingBoards();
        Scenes.write(y, "l3,7;p2;s3;t0");
        w.due("orders", y.carryOut(), 4);
        w.due("the curve", y.board(0, 0), 3);
        w.due("the weight", y.board(0, 1), 7);
        w.due("the ticks", y.count(0), 2);
        w.due("taken off", y.board(0, 2), 2);
        w.due("the speed", y.count(7), 3);
        w.due("another letter", answerTo("x1"), -2000);
        w.due("a load without a weight", answerTo("l3;p1"), -2002);
        w.due("a pass with two numbers", answerTo("p1,1"), -2002);
        w.says("A number is one or two digits, the first of two not 0.");
        w.due("one digit", answerTo("p9"), 1);
        w.due("two digits", answerTo("p10"), 1);
        w.due("0, which no pass takes", answerTo("p0"), 0);
        w.due("a first digit of 0", answerTo("p01"), -2002);
        w.due("three digits", answerTo("p100"), -2003);
        w.due("no digit", answerTo("p;"), -2001);
        w.says("The fault of the text is the index, from 0, of the first character that is not allowed at its place,");
        w.due("index 0", answerTo("?p1"), -2000);
        w.due("index 5", answerTo("l0,1 ;p1"), -2004);
        w.due("the first of two", answerTo("p1;!;?"), -2003);
        w.says("or the length of the text if it ends too early (as the empty text does).");
        w.due("the empty text", answerTo(""), -2000);
        w.due("a letter alone", answerTo("t"), -2001);
        w.due("l0,", answerTo("l0,"), -2003);
    }

    /** What is kept has changed from what it is at first. */
    private static BeggingBoards changed() {
        BeggingBoards x = new BeggingBoards();
        x.setZone(1, 5, 140, 7);
        x.setCurve(1, 0, 9);
        x.set(0, 3);
        x.set(1, 2);
        x.set(2, 1);
        x.load(1, 4);
        x.pass(1);
        x.load(0, 2);
        x.takeOff(1);
        x.append('p');
        return x;
    }

    private static void snapshots(Walk w) {
        w.heading("### Snapshots");
        w.says("There are two slots for snapshots, empty at first.");
        BeggingBoards x = new BeggingBoards();
        w.due("snapshots", x.count(13), 0);
        w.due("empty slots", x.restore(0) + x.restore(1), 2 * ILLEGAL);
        w.outside(FRESH, "take", 0, 1, BeggingBoards::take);
        w.says("A snapshot keeps everything but the text, the slots and the history.");
        BeggingBoards y = changed();
        String before = Looking.atOven(y);
        y.take(0);
        y.pass(20);
        y.take(1);
        y.append('1');
        y.restore(0);
        w.holds("all that is kept", Looking.atOven(y).equals(before));
        w.due("the speed became less once", y.count(11), 1);
        w.due("the text is as it is now", y.count(15), 2);
        w.due("the slots are as they are now", y.count(13), 2);
        w.due("the history too", y.count(14), 5);
        w.says("To restore it makes all this as it was.");
        BeggingBoards same = changed();
        y.pass(5);
        same.pass(5);
        w.holds("it goes on as it would have", Looking.atOven(y).equals(Looking.atOven(same)));
    }

    private static void undo(Walk w) {
        w.heading("### Undo");
        w.says("A history of at most 5 states is kept;");
        BeggingBoards x = new BeggingBoards();
        for (int call = 1; call <= 8; call++) {
            x.pass(1);
            w.due("states", x.count(14), Math.min(call, 5));
        }
        w.says("a state is everything but the text and the history (the slots belong to it).");
        BeggingBoards y = changed();
        String before = Looking.atOven(y);
        y.take(0);
        y.pass(9);
        y.append('1');
        y.undo();
        w.holds("all that belongs to it", Looking.atOven(y).equals(before));
        w.due("the slot is taken still", y.count(13), 1);
        y.undo();
        w.due("the slot is empty again", y.count(13), 0);
        BeggingBoards twice = new BeggingBoards();
        twice.take(0);
        twice.pass(3);
        twice.take(0);
        twice.undo();
        w.due("the earlier snapshot is there again", twice.restore(0), 0);
        w.due("the text is as it is now", y.count(15), 2);
        w.due("the history is shorter", y.count(14), 3);
        w.says("Every successful call of a method that is called an action records the state before it");
        for (Scene scene : Scenes.ALL) {
            actions(w, scene);
        }
        w.says("(also if nothing changes by it);");
        w.isAction(FRESH, "set to the same", z -> z.set(0, 2));
        w.isAction(FRESH, "setCurve to the same", z -> z.setCurve(0, 0, 40));
        w.isAction(FRESH, "setZone to the same", z -> z.setZone(0, 4, 120, 5));
        w.isAction(FRESH.then("a snapshot", z -> z.take(0)), "restore what is there", z -> z.restore(0));
        w.isAction(FRESH.then("a snapshot", z -> z.take(0)), "take what is there", z -> z.take(0));
        w.says("when a sixth one is recorded, the oldest one is dropped.");
        BeggingBoards z = new BeggingBoards();
        for (int call = 0; call < 6; call++) {
            z.pass(1);
        }
        int undone = 0;
        while (undone < 9 && z.undo() >= 0) {
            undone++;
        }
        w.due("five can be undone", undone, 5);
        w.due("to the state after the first", z.count(0), 1);
        w.says("undo() removes the latest state from the history and restores it.");
        z.pass(3);
        z.pass(4);
        w.due("one is left", z.undo(), 1);
        w.due("the ticks of before the latest", z.count(0), 4);
        w.due("none is left", z.undo(), 0);
        w.due("the ticks of before that", z.count(0), 1);
        w.due("nothing to undo", z.undo(), ILLEGAL);
    }

    private static void actions(Walk w, Scene scene) {
        w.isAction(scene, "setCurve", x -> x.setCurve(3, 5, 299));
        w.isAction(scene, "set", x -> x.set(3, 8));
        w.isAction(scene, "take", x -> x.take(1));
        if (scene != Scenes.LATE) {
            w.isAction(scene, "pass", x -> x.pass(2));
        }
        Scene empty = scene.then("no board on the belt", x -> {
            for (int board = 0; board < 30; board++) {
                x.takeOff(board);
            }
        });
        w.isAction(empty, "setZone", x -> x.setZone(0, 8, 290, 1));
        if (scene != Scenes.FULL) {
            w.isAction(empty, "load", x -> x.load(1, 5));
            Scene loaded = empty.then("a board", x -> x.load(1, 5));
            w.isAction(loaded, "takeOff", x -> x.takeOff(x.count(1) - 1));
        }
        w.isAction(scene.then("a snapshot", x -> x.take(1)), "restore", x -> x.restore(1));
    }

    // ---- errors

    private static void errors(Walk w) {
        w.heading("### Errors");
        w.says("A call that returns an error code changes nothing.");
        for (Scene scene : Scenes.ALL) {
            w.refuses(scene, "setZone(6, 4, 100, 5)", INVALID, x -> x.setZone(6, 4, 100, 5));
            w.refuses(scene, "setCurve(0, 6, 20)", INVALID, x -> x.setCurve(0, 6, 20));
            w.refuses(scene, "set(4, 1)", INVALID, x -> x.set(4, 1));
            w.refuses(scene, "load(4, 1)", INVALID, x -> x.load(4, 1));
            w.refuses(scene, "takeOff(30)", INVALID, x -> x.takeOff(30));
            w.refuses(scene, "pass(100)", INVALID, x -> x.pass(100));
            w.refuses(scene, "take(2)", INVALID, x -> x.take(2));
            w.refuses(scene, "restore(2)", INVALID, x -> x.restore(2));
            w.refuses(scene, "append(256)", INVALID, x -> x.append(256));
            Scene faulty = scene.then("a text that ends too early", x -> {
                x.clearText();
                Scenes.write(x, "p1;");
            });
            w.refuses(faulty, "carryOut()", -2003, BeggingBoards::carryOut);
        }
        for (Scene scene : Scenes.WITH_BOARDS_ON_BELT) {
            w.refuses(scene, "setZone(0, 4, 100, 5)", ILLEGAL, x -> x.setZone(0, 4, 100, 5));
        }
        w.refuses(FRESH, "undo()", ILLEGAL, BeggingBoards::undo);
        w.refuses(FRESH, "restore(1)", ILLEGAL, x -> x.restore(1));
        w.refuses(Scenes.BUSY, "load(0, 1)", ILLEGAL, x -> x.load(0, 1));
        w.refuses(Scenes.FULL, "load(0, 1)", FULL, x -> x.load(0, 1));
        w.refuses(Scenes.FULL, "append('p')", FULL, x -> x.append('p'));
        w.refuses(Scenes.LATE, "pass(1)", FULL, x -> x.pass(1));
        w.refuses(Scenes.EMPTIED, "takeOff(0)", ILLEGAL, x -> x.takeOff(0));
        w.says("If several error conditions apply, the method returns the one that its description lists first;");
        w.due("setZone: a wrong power, and a board", Scenes.BUSY.make().setZone(0, 4, 100, 0), INVALID);
        w.due("load: a wrong weight, and a board in the gap", Scenes.BUSY.make().load(0, 10), INVALID);
        Scene thirty = Scenes.thirtyInARow();
        w.due("load: a board in the gap, and 30 are loaded", thirty.make().load(0, 1), ILLEGAL);
        w.due("load: a wrong curve, and both", thirty.make().load(-1, 1), INVALID);
        w.due("pass: too many, and beyond 5000", Scenes.LATE.make().pass(100), INVALID);
        w.due("append: a wrong one, and 100 are there", Scenes.FULL.make().append(0), INVALID);
        w.due("foretell: a wrong what, of one that has left", Scenes.EMPTIED.make().foretell(0, 4), INVALID);
        w.says("NONE is no error, and it is returned only if no error condition applies.");
        BeggingBoards x = new BeggingBoards();
        x.load(0, 1);
        w.due("fault", x.fault(0, 2, 0), NONE);
        w.due("fault of no board", x.fault(1, 2, 0), INVALID);
        w.due("worstCell", x.worstCell(2, 0), NONE);
        w.due("worstCell of no kind", x.worstCell(5, 0), INVALID);
        w.due("the tick at which it left", x.board(0, 10), NONE);
        w.due("of no board", x.board(1, 10), INVALID);
        x.setCurve(0, 4, 300);
        w.due("heaviest", x.heaviest(0), NONE);
        w.due("heaviest of no curve", x.heaviest(4), INVALID);
    }

    private static void constants(Walk w) {
        w.heading("The constants:");
        w.says("`INVALID_ARGUMENT = -1001`: An argument is out of range, or names something that does not exist.");
        w.due("it", INVALID, -1001);
        w.due("out of range", new BeggingBoards().set(0, 4), -1001);
        w.due("names a board that is not there", new BeggingBoards().board(0, 0), -1001);
        w.says("`ILLEGAL_STATE = -1002`: The call is not possible in the present state.");
        w.due("it", ILLEGAL, -1002);
        w.due("nothing to undo", new BeggingBoards().undo(), -1002);
        w.says("`CAPACITY_EXCEEDED = -1003`: There is no room.");
        w.due("it", FULL, -1003);
        w.due("no room in the text", Scenes.FULL.make().append('p'), -1003);
        w.says("`NONE = -1009`: There is no such value.");
        w.due("it", NONE, -1009);
        w.due("no worst cell", new BeggingBoards().worstCell(0, 0), -1009);
    }

    // ---- the parts of the interface

    private static void interfaceParts(Walk w) throws IOException {
        part(w, "oven and curves", "setZone", "setCurve", "set");
        part(w, "boards", "load", "takeOff", "pass");
        part(w, "snapshots", "take", "restore", "undo");
        part(w, "text", "append", "clearText", "carryOut");
        part(w, "looking", "count", "zone", "curve", "board", "fault", "worstCell", "faultCells");
        part(w, "what could be, which changes nothing", "foretell", "wouldFail", "heaviest", "room");
        for (Scene scene : Scenes.ALL) {
            w.holds(scene.name + ": no forecast changes anything", scene.toldAfter(x -> {
                Looking.atPart(x, Looking.FORECASTS);
                return 0;
            }).equals(scene.told()));
        }
    }

    private static void part(Walk w, String name, String... methods) throws IOException {
        List<String> due = List.of(methods);
        w.says("Ahead of the calls `" + String.join("`, `", due) + "` the interface says: ---- " + name
                + ".");
        w.holds("so does the class", methodsBehind("// ---- " + name + "\n").equals(due));
    }

    /** The public methods between a comment of the source and the next one of its kind. */
    private static List<String> methodsBehind(String comment) throws IOException {
        String source = Files.readString(SOURCE);
        int start = source.indexOf("    " + comment);
        List<String> methods = new ArrayList<>();
        if (start >= 0) {
            int end = source.indexOf("    // ---- ", start + 1);
            Matcher matcher = Pattern.compile("(?m)^    public int (\\w+)\\(").matcher(
                    source.substring(start, end < 0 ? source.length() : end));
            while (matcher.find()) {
                methods.add(matcher.group(1));
            }
        }
        return methods;
    }
}
