import java.io.IOException;

/** The document from promise 1 to promise 13: a new object, the actions, undo, and the text. */
public final class WalkOfActionsTest {
    private static final int INVALID = BeggingBoards.INVALID_ARGUMENT;
    private static final int ILLEGAL = BeggingBoards.ILLEGAL_STATE;
    private static final int FULL = BeggingBoards.CAPACITY_EXCEEDED;
    private static final int NONE = BeggingBoards.NONE;
    private static final Scene FRESH = Scenes.FRESH;
    private static final Scene LOADED = FRESH.then("a board after two ticks", x -> {
        x.load(2, 3);
        x.pass(2);
    });

    private WalkOfActionsTest() {
    }

    public static void main(String[] args) throws IOException {
        Walk w = new Walk("WalkOfActionsTest", Walk.PROMISES, Walk.LOOKING);
        newObject(w);
        setZone(w);
        setCurve(w);
        set(w);
        load(w);
        takeOff(w);
        pass(w);
        take(w);
        restore(w);
        undo(w);
        append(w);
        clearText(w);
        carryOut(w);
        w.end();
    }

    private static void newObject(Walk w) {
        w.heading("## Promise 1: A new object");
        w.says("`BeggingBoards()`: Creates an oven with an empty belt, with an empty text.");
        BeggingBoards x = new BeggingBoards();
        w.due("loaded, on the belt, left, taken off", x.count(1) + x.count(2) + x.count(3) + x.count(5), 0);
        w.due("characters", x.count(15), 0);
        w.due("no board", x.board(0, 2), INVALID);
        for (int zone = 0; zone < 6; zone++) {
            w.due("boards in the zone " + zone, x.zone(zone, 5) + x.zone(zone, 6), 0);
        }
        w.due("no tick, no plea, no snapshot, no state", x.count(0) + x.count(11) + x.count(12) + x.count(13)
                + x.count(14), 0);
        w.due("room", x.room(), 0);
    }

    private static void setZone(Walk w) {
        w.heading("## Promise 2: setZone");
        w.says("`int setZone(int zone, int length, int target, int power)`: Sets a zone,");
        BeggingBoards x = new BeggingBoards();
        for (int zone = 0; zone < 6; zone++) {
            x.setZone(zone, 3 + zone, 50 + 10 * zone, 11 + zone);
        }
        for (int zone = 0; zone < 6; zone++) {
            w.due("the length", x.zone(zone, 0), 3 + zone);
            w.due("the target", x.zone(zone, 1), 50 + 10 * zone);
            w.due("the power", x.zone(zone, 2), 11 + zone);
        }
        w.says("whose warmth becomes the target.");
        BeggingBoards y = new BeggingBoards();
        y.set(3, 9);
        y.set(0, 1);
        y.load(0, 9);
        y.pass(3);
        y.takeOff(0);
        w.due("cooled by 16 and warmed by 5 three times", y.zone(0, 3), 120 - 33);
        y.setZone(0, 4, 250, 1);
        w.due("to a higher target at once", y.zone(0, 3), 250);
        y.setZone(0, 4, 33, 1);
        w.due("to a lower target at once", y.zone(0, 3), 33);
        w.due("no other zone", y.zone(1, 3), 160);
        w.says("This is an action.");
        w.isAction(FRESH, "setZone(5, 8, 300, 20)", z -> z.setZone(5, 8, 300, 20));
        w.isAction(Scenes.EMPTIED, "setZone(0, 2, 20, 1)", z -> z.setZone(0, 2, 20, 1));
        w.says("- `zone`: 0 to 5");
        w.outside(FRESH, "setZone(.., 4, 100, 5)", 0, 5, (z, v) -> z.setZone(v, 4, 100, 5));
        w.says("- `length`: 2 to 8");
        w.outside(FRESH, "setZone(0, .., 100, 5)", 2, 8, (z, v) -> z.setZone(0, v, 100, 5));
        w.says("- `target`: 20 to 300");
        w.outside(FRESH, "setZone(0, 4, .., 5)", 20, 300, (z, v) -> z.setZone(0, 4, v, 5));
        w.says("- `power`: 1 to 20");
        w.outside(FRESH, "setZone(0, 4, 100, ..)", 1, 20, (z, v) -> z.setZone(0, 4, 100, v));
        w.says("Returns the length of the belt then;");
        BeggingBoards z = new BeggingBoards();
        int[] lengths = {28, 32, 36, 40, 44, 48};
        for (int zone = 0; zone < 6; zone++) {
            w.due("the zone " + zone + " of 8 cells", z.setZone(zone, 8, 100, 5), lengths[zone]);
        }
        w.says("INVALID_ARGUMENT if an argument is out of range;");
        w.refuses(FRESH, "all of them", INVALID, v -> v.setZone(-1, 9, 301, 0));
        w.refuses(LOADED, "one, with a board on the belt", INVALID, v -> v.setZone(0, 9, 100, 5));
        w.says("ILLEGAL_STATE if a board is on the belt.");
        w.refuses(LOADED, "setZone(5, 4, 60, 5)", ILLEGAL, v -> v.setZone(5, 4, 60, 5));
        w.isAction(LOADED.then("taken off", v -> v.takeOff(0)), "setZone(5, 4, 60, 5)", v -> v.setZone(5, 4, 60, 5));
        w.isAction(LOADED.then("it has left", v -> v.pass(10)), "setZone(5, 4, 60, 5)", v -> v.setZone(5, 4, 60, 5));
    }

    private static void setCurve(Walk w) {
        w.heading("## Promise 3: setCurve");
        w.says("`int setCurve(int curve, int what, int value)`: Sets a number of a curve.");
        BeggingBoards x = new BeggingBoards();
        for (int i = 0; i < 24; i++) {
            x.setCurve(i / 6, i % 6, 60 + i);
        }
        for (int i = 0; i < 24; i++) {
            w.due("the number " + i % 6 + " of the curve " + i / 6, x.curve(i / 6, i % 6), 60 + i);
        }
        w.says("This is an action.");
        w.isAction(FRESH, "setCurve(0, 0, 1)", y -> y.setCurve(0, 0, 1));
        w.isAction(Scenes.BUSY, "setCurve(3, 5, 20)", y -> y.setCurve(3, 5, 20));
        w.says("- `curve`: 0 to 3");
        w.outside(LOADED, "setCurve(.., 0, 50)", 0, 3, (y, v) -> y.setCurve(v, 0, 50));
        w.says("- `what`: 0 to 5");
        w.outside(LOADED, "setCurve(0, .., 50)", 0, 5, (y, v) -> y.setCurve(0, v, 50));
        w.says("- `value`: as told for each");
        int[] least = {1, 20, 0, 0, 20, 20};
        int[] most = {99, 300, 99, 99, 300, 300};
        for (int what = 0; what < 6; what++) {
            int number = what;
            w.outside(LOADED, "setCurve(1, " + what + ", ..)", least[what], most[what],
                    (y, v) -> y.setCurve(1, number, v));
        }
        w.says("Returns the previous number;");
        int[] first = {40, 180, 2, 6, 190, 240};
        BeggingBoards z = new BeggingBoards();
        for (int what = 0; what < 6; what++) {
            w.due("the first one", z.setCurve(2, what, 30 + what), first[what]);
            w.due("the second one", z.setCurve(2, what, 30 + what), 30 + what);
        }
        w.says("INVALID_ARGUMENT if an argument is out of range.");
        w.refuses(LOADED, "all of them", INVALID, y -> y.setCurve(4, 6, 301));
    }

    private static void set(Walk w) {
        w.heading("## Promise 4: set");
        w.says("`int set(int what, int value)`: Sets a number of the belt.");
        BeggingBoards x = new BeggingBoards();
        int[] values = {3, 17, 55, 8};
        for (int what = 0; what < 4; what++) {
            x.set(what, values[what]);
        }
        for (int what = 0; what < 4; what++) {
            w.due("the number " + what, x.count(7 + what), values[what]);
        }
        w.says("This is an action.");
        w.isAction(FRESH, "set(0, 1)", y -> y.set(0, 1));
        w.isAction(Scenes.BUSY, "set(3, 9)", y -> y.set(3, 9));
        w.says("- `what`: 0 for the speed, 1 for the gap, 2 for the bound for pleas, 3 for the drop");
        BeggingBoards z = new BeggingBoards();
        z.set(0, 3);
        z.set(1, 5);
        z.set(2, 1);
        z.set(3, 9);
        z.setCurve(0, 0, 1);
        z.load(0, 9);
        z.pass(1);
        w.due("by the speed", z.board(0, 3), 3);
        w.due("by the gap", z.load(0, 1), ILLEGAL);
        w.due("by the bound", z.count(7), 2);
        w.due("by the drop", z.zone(0, 3), 120 - 16 + 5);
        w.outside(LOADED, "set(.., 1)", 0, 3, (y, v) -> y.set(v, 1));
        w.says("- `value`: as told for each");
        int[] least = {1, 1, 0, 0};
        int[] most = {3, 20, 99, 9};
        for (int what = 0; what < 4; what++) {
            int number = what;
            w.outside(LOADED, "set(" + what + ", ..)", least[what], most[what], (y, v) -> y.set(number, v));
        }
        w.says("Returns the previous number;");
        int[] first = {2, 3, 6, 1};
        BeggingBoards v = new BeggingBoards();
        for (int what = 0; what < 4; what++) {
            w.due("the first one", v.set(what, 1), first[what]);
            w.due("the second one", v.set(what, 2), 1);
        }
        w.due("the one that pleas have made", z.set(0, 3), 2);
        w.says("INVALID_ARGUMENT if an argument is out of range.");
        w.refuses(LOADED, "both", INVALID, y -> y.set(-1, 100));
    }

    private static void load(Walk w) {
        w.heading("## Promise 5: load");
        w.says("`int load(int curve, int weight)`: Loads a board.");
        BeggingBoards x = new BeggingBoards();
        x.load(3, 8);
        int[] told = {3, 8, 0, 0, 20, 0, 20, 0, 0, 0, NONE};
        for (int what = 0; what <= 10; what++) {
            w.due("the board, " + what, x.board(0, what), told[what]);
        }
        w.says("This is an action.");
        w.isAction(FRESH, "load(0, 1)", y -> y.load(0, 1));
        w.isAction(Scenes.EMPTIED, "load(3, 9)", y -> y.load(3, 9));
        w.says("- `curve`: 0 to 3");
        w.outside(FRESH, "load(.., 1)", 0, 3, (y, v) -> y.load(v, 1));
        w.says("- `weight`: 1 to 9");
        w.outside(FRESH, "load(3, ..)", 1, 9, (y, v) -> y.load(3, v));
        w.says("Returns its number;");
        BeggingBoards z = new BeggingBoards();
        for (int board = 0; board < 4; board++) {
            w.due("the next one", z.load(0, 1), board);
            z.takeOff(board);
        }
        z.undo();
        z.undo();
        w.due("a number that undo has set free", z.load(0, 1), 3);
        w.says("INVALID_ARGUMENT if an argument is out of range;");
        w.refuses(FRESH, "both", INVALID, y -> y.load(-1, 0));
        w.refuses(LOADED.then("the gap 5", y -> y.set(1, 5)), "with a board in the gap", INVALID, y -> y.load(0, 10));
        w.says("ILLEGAL_STATE if a board is on the belt in a cell that is less than the gap;");
        w.refuses(LOADED.then("the gap 5", y -> y.set(1, 5)), "in cell 4", ILLEGAL, y -> y.load(0, 1));
        w.isAction(LOADED.then("the gap 4", y -> y.set(1, 4)), "in cell 4", y -> y.load(0, 1));
        w.says("CAPACITY_EXCEEDED if 30 boards have been loaded.");
        w.refuses(Scenes.FULL, "load(0, 1)", FULL, y -> y.load(0, 1));
        w.refuses(Scenes.FULL.then("none on the belt", y -> y.pass(99)), "load(0, 1)", FULL, y -> y.load(0, 1));
        w.refuses(Scenes.FULL.then("the gap 20", y -> y.set(1, 20)), "load(0, 1)", ILLEGAL, y -> y.load(0, 1));
    }

    private static void takeOff(Walk w) {
        w.heading("## Promise 6: takeOff");
        w.says("`int takeOff(int board)`: Takes a board off the belt.");
        BeggingBoards x = LOADED.make();
        x.takeOff(0);
        w.due("its state", x.board(0, 2), 2);
        w.due("its cell", x.board(0, 3), NONE);
        w.due("on the belt, taken off", x.count(2) * 10 + x.count(5), 1);
        int degrees = x.board(0, 4);
        x.pass(1);
        w.due("it becomes no warmer", x.board(0, 4), degrees);
        w.due("it never leaves", x.pass(50), 0);
        w.says("This is an action.");
        w.isAction(LOADED, "takeOff(0)", y -> y.takeOff(0));
        w.says("- `board`: a board");
        BeggingBoards y = LOADED.make();
        y.load(0, 1);
        w.due("the second one", y.takeOff(1), 0);
        w.due("the first one is on the belt still", y.board(0, 2), 0);
        w.says("Returns the cell where it was;");
        for (int ticks = 1; ticks <= 11; ticks++) {
            BeggingBoards z = new BeggingBoards();
            z.load(0, 1);
            z.pass(ticks);
            w.due("after " + ticks + " ticks", z.takeOff(0), 2 * ticks);
        }
        w.says("INVALID_ARGUMENT if there is no such board;");
        w.outside(LOADED, "takeOff(..)", 0, 0, BeggingBoards::takeOff);
        w.outside(Scenes.FULL, "takeOff(..)", 0, 29, BeggingBoards::takeOff);
        w.says("ILLEGAL_STATE if it is not on the belt.");
        w.refuses(LOADED.then("taken off", z -> z.takeOff(0)), "takeOff(0)", ILLEGAL, z -> z.takeOff(0));
        w.refuses(LOADED.then("it has left", z -> z.pass(10)), "takeOff(0)", ILLEGAL, z -> z.takeOff(0));
    }

    private static void pass(Walk w) {
        w.heading("## Promise 7: pass");
        w.says("`int pass(int ticks)`: Lets ticks pass.");
        for (int ticks = 1; ticks <= 99; ticks++) {
            BeggingBoards x = new BeggingBoards();
            x.pass(ticks);
            w.due("ticks", x.count(0), ticks);
        }
        BeggingBoards atOnce = Scenes.BUSY.make();
        BeggingBoards oneByOne = Scenes.BUSY.make();
        atOnce.pass(7);
        for (int tick = 0; tick < 7; tick++) {
            oneByOne.pass(1);
        }
        w.holds("seven at once are as seven one by one", Looking.atOven(atOnce).equals(Looking.atOven(oneByOne)));
        w.says("This is an action.");
        w.isAction(FRESH, "pass(1)", y -> y.pass(1));
        w.isAction(Scenes.BUSY, "pass(99)", y -> y.pass(99));
        w.says("- `ticks`: 1 to 99");
        w.outside(LOADED, "pass(..)", 1, 99, BeggingBoards::pass);
        w.says("Returns the number of boards that leave;");
        BeggingBoards x = new BeggingBoards();
        x.set(0, 3);
        x.set(2, 0);
        for (int board = 0; board < 5; board++) {
            x.load(0, 1);
            w.due("none yet", x.pass(1), 0);
        }
        int[] ticks = {2, 1, 1, 2, 9};
        int[] leave = {0, 1, 1, 2, 1};
        for (int i = 0; i < 5; i++) {
            w.due("in " + ticks[i] + " ticks", x.pass(ticks[i]), leave[i]);
        }
        BeggingBoards y = LOADED.make();
        y.takeOff(0);
        w.due("one that was taken off does not leave", y.pass(99), 0);
        w.says("INVALID_ARGUMENT if ticks is out of range;");
        w.refuses(FRESH, "pass(0)", INVALID, z -> z.pass(0));
        w.refuses(Scenes.LATE, "pass(100)", INVALID, z -> z.pass(100));
        w.says("CAPACITY_EXCEEDED if more than 5000 ticks would have passed.");
        Scene before = FRESH.then("4950 ticks", z -> {
            for (int i = 0; i < 50; i++) {
                z.pass(99);
            }
        });
        w.refuses(before, "pass(51)", FULL, z -> z.pass(51));
        w.isAction(before, "pass(50)", z -> z.pass(50));
        w.refuses(Scenes.LATE, "pass(1)", FULL, z -> z.pass(1));
    }

    private static void take(Walk w) {
        w.heading("## Promise 8: take");
        w.says("`int take(int slot)`: Takes a snapshot, in place of one that is there.");
        BeggingBoards x = new BeggingBoards();
        x.pass(3);
        x.take(1);
        x.pass(4);
        w.due("the first one", x.restore(1), 3);
        x.pass(2);
        x.take(1);
        x.pass(4);
        w.due("the one in its place", x.restore(1), 5);
        w.due("one slot", x.count(13), 1);
        w.says("This is an action.");
        w.isAction(FRESH, "take(0)", y -> y.take(0));
        w.isAction(Scenes.FULL, "take(1)", y -> y.take(1));
        w.says("- `slot`: 0 or 1");
        w.outside(LOADED, "take(..)", 0, 1, BeggingBoards::take);
        w.says("Returns the number of ticks that have passed;");
        w.due("none", new BeggingBoards().take(0), 0);
        w.due("two", LOADED.make().take(1), 2);
        w.due("5000", Scenes.LATE.make().take(0), 5000);
        w.says("INVALID_ARGUMENT if slot is out of range.");
        w.refuses(Scenes.BUSY, "take(2)", INVALID, y -> y.take(2));
    }

    private static void restore(Walk w) {
        w.heading("## Promise 9: restore");
        w.says("`int restore(int slot)`: Restores a snapshot, which stays.");
        BeggingBoards x = Scenes.BUSY.make();
        String before = Looking.atOven(x);
        x.take(0);
        for (int round = 0; round < 2; round++) {
            x.pass(9);
            x.set(3, 9);
            w.due("restore", x.restore(0), x.count(0));
            w.due("it stays", x.count(13), 2);
        }
        w.holds("all is as it was", Looking.atOven(x).equals(before));
        w.says("This is an action.");
        w.isAction(Scenes.BUSY, "restore(1)", y -> y.restore(1));
        w.isAction(Scenes.FULL, "restore(0)", y -> y.restore(0));
        w.says("- `slot`: 0 or 1");
        w.outside(Scenes.BUSY, "restore(..)", 0, 1, BeggingBoards::restore);
        w.says("Returns the number of ticks that have passed then;");
        BeggingBoards z = new BeggingBoards();
        z.take(0);
        z.pass(5);
        z.take(1);
        z.pass(5);
        w.due("none", z.restore(0), 0);
        w.due("five", z.restore(1), 5);
        w.due("the ticks", z.count(0), 5);
        w.says("INVALID_ARGUMENT if slot is out of range;");
        w.refuses(FRESH, "restore(2)", INVALID, y -> y.restore(2));
        w.says("ILLEGAL_STATE if the slot is empty.");
        w.refuses(FRESH, "restore(0)", ILLEGAL, y -> y.restore(0));
        w.refuses(FRESH.then("the other one is not", y -> y.take(0)), "restore(1)", ILLEGAL, y -> y.restore(1));
    }

    private static void undo(Walk w) {
        w.heading("## Promise 10: undo");
        w.says("`int undo()`: Removes the latest state from the history and restores it.");
        BeggingBoards x = Scenes.BUSY.make();
        String before = Looking.atOven(x);
        x.pass(3);
        x.undo();
        w.holds("all is as it was", Looking.atOven(x).equals(before));
        w.due("the state is removed", x.count(14), 4);
        w.says("Returns the number of states that are left in the history;");
        for (int left = 3; left >= 0; left--) {
            w.due("undo", x.undo(), left);
            w.due("states", x.count(14), left);
        }
        w.says("ILLEGAL_STATE if it is empty.");
        w.due("undo", x.undo(), ILLEGAL);
        w.refuses(FRESH, "undo()", ILLEGAL, BeggingBoards::undo);
        w.refuses(FRESH.then("an error", y -> y.pass(0)), "undo()", ILLEGAL, BeggingBoards::undo);
    }

    private static void append(Walk w) {
        w.heading("## Promise 11: append");
        w.says("`int append(int character)`: Appends a character to the text.");
        BeggingBoards x = new BeggingBoards();
        Scenes.write(x, "s");
        x.append('3');
        w.due("behind the others", x.carryOut(), 1);
        w.due("the speed", x.count(7), 3);
        w.says("- `character`: character code, 1 to 255");
        for (int character = 1; character <= 255; character++) {
            w.due("the character " + character, new BeggingBoards().append(character), 1);
        }
        w.outside(FRESH, "append(..)", 1, 255, BeggingBoards::append);
        w.says("Returns the new length of the text;");
        BeggingBoards y = new BeggingBoards();
        for (int length = 1; length <= 100; length++) {
            w.due("the length", y.append('x'), length);
        }
        w.due("it is no action", y.count(14), 0);
        w.says("INVALID_ARGUMENT if character is out of range;");
        w.refuses(FRESH, "append(0)", INVALID, z -> z.append(0));
        w.refuses(Scenes.FULL, "append(256)", INVALID, z -> z.append(256));
        w.says("CAPACITY_EXCEEDED if the text already has 100 characters.");
        w.refuses(Scenes.FULL, "append(';')", FULL, z -> z.append(';'));
    }

    private static void clearText(Walk w) {
        w.heading("## Promise 12: clearText");
        w.says("`int clearText()`: Makes the text empty.");
        BeggingBoards x = new BeggingBoards();
        Scenes.write(x, "p9;");
        x.clearText();
        w.due("characters", x.count(15), 0);
        Scenes.write(x, "p2");
        w.due("only the new ones", x.carryOut(), 1);
        w.due("two ticks", x.count(0), 2);
        w.says("Returns the previous length of the text.");
        w.due("of none", x.clearText(), 0);
        w.due("of some", Scenes.LATE.make().clearText(), 5);
        w.due("of 100", Scenes.FULL.make().clearText(), 100);
        w.due("it is no action", x.count(14), 1);
    }

    private static BeggingBoards told(String text) {
        BeggingBoards x = new BeggingBoards();
        Scenes.write(x, text);
        return x;
    }

    private static void isOneAction(Walk w, Scene scene) {
        BeggingBoards x = scene.make();
        int states = x.count(14);
        w.holds(scene.name + ": it is carried out", x.carryOut() >= 0);
        w.due(scene.name + ": the states", x.count(14), Math.min(5, states + 1));
        String before = scene.ovenAfter(y -> 0, y -> 0);
        w.holds(scene.name + ": undone",
                scene.ovenAfter(BeggingBoards::carryOut, y -> y.undo() >= 0 ? 0 : 1).equals(before));
    }

    private static void carryOut(Walk w) {
        w.heading("## Promise 13: carryOut");
        w.says("`int carryOut()`: Carries out the orders of the text, one after another,"
                + " up to the first one that returns an error code,");
        BeggingBoards x = told("p2;l1,4;p1;s3;p1;t0;l2,5");
        x.carryOut();
        BeggingBoards same = new BeggingBoards();
        same.pass(2);
        same.load(1, 4);
        same.pass(1);
        same.set(0, 3);
        same.pass(1);
        same.takeOff(0);
        same.load(2, 5);
        w.holds("as the calls do", Looking.atOven(x).equals(Looking.atOven(same)));
        BeggingBoards stopped = told("p1;t0;p5");
        stopped.carryOut();
        w.due("none after the one that returns an error", stopped.count(0), 1);
        w.says("and makes the text empty.");
        w.due("characters", x.count(15), 0);
        w.due("also after an error", stopped.count(15), 0);
        w.says("If the text has no fault, this is one action,");
        w.due("states", x.count(14), 1);
        w.due("also with an error", stopped.count(14), 1);
        w.due("undone at once", stopped.undo(), 0);
        w.due("no tick", stopped.count(0), 0);
        w.due("the text stays empty", stopped.count(15), 0);
        Scenes.write(stopped, "p3");
        w.due("the next text is read from its first order", stopped.carryOut(), 1);
        w.due("three ticks", stopped.count(0), 3);
        Scene[] scenes = {Scenes.BUSY, Scenes.FULL, Scenes.LATE, Scenes.EMPTIED};
        for (Scene scene : scenes) {
            isOneAction(w, scene);
        }
        w.says("also if no order is carried out.");
        BeggingBoards none = told("t0;p9");
        w.due("orders", none.carryOut(), 0);
        w.due("states", none.count(14), 1);
        w.due("undone", none.undo(), 0);
        w.says("Returns the number of orders that are carried out;");
        String[] texts = {"p1", "p1;p0", "p1;p2;s4;p3", "s1;s2;s3;p1;p2", "l4,1;p1", "l0,1;l0,1;p1"};
        int[] orders = {1, 1, 2, 5, 0, 1};
        for (int i = 0; i < texts.length; i++) {
            w.due(texts[i], told(texts[i]).carryOut(), orders[i]);
        }
        w.says("-2000 minus the fault of the text if it has one (which is an error).");
        String[] faulty = {"", "?", "p", "p1;l1.2", "p1;p2;p3;"};
        int[] faults = {0, 0, 1, 5, 9};
        for (int i = 0; i < faulty.length; i++) {
            String text = faulty[i];
            Scene scene = FRESH.then("the text '" + text + "'", y -> Scenes.write(y, text));
            w.refuses(scene, "carryOut()", -2000 - faults[i], BeggingBoards::carryOut);
        }
        w.due("the greatest one", told(Scenes.fullOfOrders().substring(0, 99) + ";").carryOut(), -2100);
    }
}
