import java.io.IOException;

/** Boundary cases of the promises 8 to 10: take, restore, undo. */
public final class BoundsOfSnapshotsTest {
    private static final int INVALID = BeggingBoards.INVALID_ARGUMENT;
    private static final int ILLEGAL = BeggingBoards.ILLEGAL_STATE;
    private static final int FULL = BeggingBoards.CAPACITY_EXCEEDED;
    private static final Scene FRESH = Scenes.FRESH;

    private BoundsOfSnapshotsTest() {
    }

    public static void main(String[] args) throws IOException {
        Bounds b = new Bounds("BoundsOfSnapshotsTest", 8, 9, 10);
        slotsOutside(b);
        slotsInside(b);
        ticksThatTheyTell(b);
        emptySlots(b);
        inPlaceOfOne(b);
        whatASnapshotKeeps(b);
        countsOfPleasAreKept(b);
        whatASnapshotDoesNotKeep(b);
        emptyHistory(b);
        atMostFiveStates(b);
        theSixthOfEachAction(b);
        alsoIfNothingChanges(b);
        refusedCallsRecordNothing(b);
        theSlotsBelongToAState(b);
        theTextDoesNot(b);
        b.end();
    }

    // ---- promises 8 and 9

    private static void slotsOutside(Bounds b) {
        b.sentence(8, "INVALID_ARGUMENT if slot is out of range");
        b.outside(Scenes.ALL, "take(..)", 0, 1, BeggingBoards::take);
        b.sentence(9, "INVALID_ARGUMENT if slot is out of range");
        b.outside(Scenes.ALL, "restore(..)", 0, 1, BeggingBoards::restore);
    }

    private static void slotsInside(Bounds b) {
        b.sentence(8, "`slot`: 0 or 1");
        for (Scene scene : Scenes.ALL) {
            int ticks = scene.make().count(0);
            b.does(scene, "take(0)", ticks, x -> x.take(0));
            b.does(scene, "take(1)", ticks, x -> x.take(1));
        }
        b.sentence(9, "`slot`: 0 or 1");
        b.does(Scenes.FULL, "restore(0)", 20, x -> x.restore(0));
        b.does(Scenes.FULL, "restore(1)", 39, x -> x.restore(1));
        b.does(Scenes.BUSY, "restore(0)", 24, x -> x.restore(0));
        b.does(Scenes.BUSY, "restore(1)", 26, x -> x.restore(1));
    }

    private static void ticksThatTheyTell(Bounds b) {
        b.sentence(8, "Returns the number of ticks that have passed");
        b.does(FRESH, "take(0)", 0, x -> x.take(0));
        b.does(Scenes.LATE, "take(0)", 5000, x -> x.take(0));
        b.sentence(9, "Returns the number of ticks that have passed then");
        Scene both = Scenes.LATE.then("the ticks 4950 and 5000 are kept", x -> x.take(0));
        b.does(both, "restore(0)", 5000, x -> x.restore(0));
        b.does(both, "restore(1)", 4950, x -> x.restore(1));
        b.refuses(both.then("restore(0)", x -> x.restore(0)), "pass(1)", FULL, x -> x.pass(1));
        b.does(both.then("restore(1)", x -> x.restore(1)), "pass(50)", 0, x -> x.pass(50));
        Scene first = FRESH.then("the tick 0 is kept", x -> {
            x.take(0);
            x.pass(9);
        });
        b.does(first, "restore(0)", 0, x -> x.restore(0));
    }

    private static void emptySlots(Bounds b) {
        b.sentence(9, "There are two slots for snapshots, empty at first");
        b.refuses(FRESH, "restore(0)", ILLEGAL, x -> x.restore(0));
        b.refuses(FRESH, "restore(1)", ILLEGAL, x -> x.restore(1));
        b.sentence(9, "ILLEGAL_STATE if the slot is empty");
        Scene one = Scenes.EMPTIED;
        b.due("the first slot is empty", one.make().restore(0), ILLEGAL);
        b.refuses(one, "restore(0)", ILLEGAL, x -> x.restore(0));
        Scene zero = FRESH.then("a snapshot in the slot 0", x -> x.take(0));
        b.due("snapshots", zero.make().count(13), 1);
        b.refuses(zero, "restore(1)", ILLEGAL, x -> x.restore(1));
        b.does(zero, "restore(0)", 0, x -> x.restore(0));
        b.refuses(zero.then("undone", BeggingBoards::undo), "restore(0)", ILLEGAL, x -> x.restore(0));
        b.refuses(FRESH.then("a take that was refused", x -> x.take(2)), "restore(1)", ILLEGAL, x -> x.restore(1));
        b.sentence(9, "If several error conditions apply");
        b.refuses(FRESH, "restore(2) with empty slots", INVALID, x -> x.restore(2));
        b.refuses(FRESH, "restore(-1) with empty slots", INVALID, x -> x.restore(-1));
    }

    private static void inPlaceOfOne(Bounds b) {
        b.sentence(8, "Takes a snapshot, in place of one that is there");
        BeggingBoards x = FRESH.make();
        int[] slots = {1, 1, 0, 0, 1};
        int[] snapshots = {1, 1, 2, 2, 2};
        for (int i = 0; i < slots.length; i++) {
            x.pass(1);
            b.due("take", x.take(slots[i]), i + 1);
            b.due("snapshots", x.count(13), snapshots[i]);
        }
        b.sentence(9, "Restores a snapshot, which stays");
        b.due("the latest in the slot 1", x.restore(1), 5);
        b.due("the latest in the slot 0", x.restore(0), 4);
        b.due("it stays", x.restore(0), 4);
        b.due("the other one too", x.restore(1), 5);
        b.due("snapshots", x.count(13), 2);
    }

    private static void whatASnapshotKeeps(Bounds b) {
        b.sentence(8, "A snapshot keeps everything but the text, the slots and the history");
        for (Scene scene : Scenes.ALL) {
            Scene taken = scene.then("take(0)", x -> x.take(0));
            String before = taken.ovenAfter(x -> 0, x -> x.count(0));
            b.holds(scene.name + ", all is upset", !taken.ovenAfter(x -> upset(x), x -> x.count(0)).equals(before));
            b.holds(scene.name + ", all is as it was", taken.ovenAfter(x -> upset(x), x -> x.restore(0)).equals(before));
            Scene other = scene.then("take(1)", x -> x.take(1));
            b.holds(scene.name + ", take changes nothing in the oven",
                    other.ovenAfter(x -> x.take(1), x -> 0).equals(other.ovenAfter(x -> 0, x -> 0)));
            b.holds(scene.name + ", all is as it was by the slot 1", other.ovenAfter(x -> upset(x), x -> x.restore(1))
                    .equals(other.ovenAfter(x -> 0, x -> x.count(0))));
        }
    }

    private static int upset(BeggingBoards x) {
        x.pass(5);
        for (int board = 0; board < 30; board++) {
            x.takeOff(board);
        }
        for (int number = 0; number < 6; number++) {
            x.setZone(number, 3, 33, 3);
            x.setCurve(number % 4, number, 33);
            x.set(number % 4, 3);
        }
        x.load(3, 3);
        return x.pass(9);
    }

    /** The speed, and how often it became less and greater by pleas. */
    private static void speedIs(Bounds b, BeggingBoards x, int speed, int slowed, int hastened) {
        b.due("the speed", x.count(7), speed);
        b.due("less by pleas", x.count(11), slowed);
        b.due("greater by pleas", x.count(12), hastened);
    }

    private static void countsOfPleasAreKept(Bounds b) {
        b.sentence(9, "To restore it makes all this as it was");
        BeggingBoards x = Scenes.flat(300).then("pleas for slower, then for faster", y -> {
            y.setCurve(0, 0, 1);
            y.setCurve(1, 0, 99);
            y.setCurve(1, 1, 20);
            y.setCurve(1, 3, 0);
            y.set(0, 3);
            y.set(1, 1);
            y.set(2, 1);
        }).make();
        x.take(0);
        x.load(0, 9);
        x.pass(1);
        speedIs(b, x, 2, 1, 0);
        x.take(1);
        x.takeOff(0);
        x.load(1, 9);
        x.pass(1);
        speedIs(b, x, 3, 1, 1);
        x.restore(0);
        speedIs(b, x, 3, 0, 0);
        x.restore(1);
        speedIs(b, x, 2, 1, 0);
        b.sentence(10, "undo() removes the latest state from the history and restores it");
        x.undo();
        speedIs(b, x, 3, 0, 0);
        x.undo();
        speedIs(b, x, 3, 1, 1);
        x.undo();
        speedIs(b, x, 2, 1, 0);
    }

    private static void whatASnapshotDoesNotKeep(Bounds b) {
        b.sentence(9, "A snapshot keeps everything but the text, the slots and the history");
        BeggingBoards x = FRESH.make();
        x.append('p');
        x.take(0);
        x.append('7');
        x.take(1);
        x.pass(1);
        x.restore(0);
        b.due("the slot that was empty then is not emptied", x.count(13), 2);
        b.due("the characters that were appended stay", x.count(15), 2);
        b.due("the history goes on: take, take, pass, restore", x.count(14), 4);
        b.due("the text is what it was", x.carryOut(), 1);
        b.due("seven ticks", x.count(0), 7);
        x.restore(1);
        b.due("the text that was emptied stays empty", x.count(15), 0);
    }

    // ---- promise 10

    private static void emptyHistory(Bounds b) {
        b.sentence(10, "ILLEGAL_STATE if it is empty");
        b.refuses(FRESH, "undo()", ILLEGAL, BeggingBoards::undo);
        b.refuses(FRESH.then("only a text", x -> x.append('p')), "undo()", ILLEGAL, BeggingBoards::undo);
        for (Scene scene : Scenes.ALL) {
            int states = scene.make().count(14);
            Scene none = scene.then("all that can be is undone", x -> {
                for (int i = 0; i < states; i++) {
                    x.undo();
                }
            });
            b.due("states", none.make().count(14), 0);
            b.refuses(none, "undo()", ILLEGAL, BeggingBoards::undo);
        }
        b.sentence(10, "Returns the number of states that are left in the history");
        BeggingBoards x = FRESH.make();
        x.pass(1);
        b.due("undo of the only one", x.undo(), 0);
        b.due("undo of nothing", x.undo(), ILLEGAL);
        b.due("nothing is changed by it", x.count(0) + x.count(14), 0);
    }

    private static void atMostFiveStates(Bounds b) {
        b.sentence(10, "A history of at most 5 states is kept");
        b.sentence(10, "when a sixth one is recorded, the oldest one is dropped");
        for (int actions = 1; actions <= 20; actions++) {
            BeggingBoards x = FRESH.make();
            for (int i = 0; i < actions; i++) {
                x.pass(1);
            }
            int kept = Math.min(5, actions);
            String name = actions + " actions, ";
            b.due(name + "states", x.count(14), kept);
            for (int left = kept - 1; left >= 0; left--) {
                b.due(name + "undo", x.undo(), left);
                b.due(name + "states left", x.count(14), left);
                b.due(name + "the ticks then", x.count(0), actions - kept + left);
            }
            b.due(name + "undo of nothing", x.undo(), ILLEGAL);
            b.due(name + "the ticks stay", x.count(0), actions - kept);
        }
        b.sentence(10, "undo() removes the latest state from the history and restores it");
        for (int before = 1; before <= 7; before++) {
            for (int undone = 1; undone <= 5; undone++) {
                backAndOn(b, before, Math.min(undone, Math.min(5, before)));
            }
        }
    }

    /** States that come after some were undone take their places. */
    private static void backAndOn(Bounds b, int before, int undone) {
        BeggingBoards x = FRESH.make();
        for (int i = 0; i < before; i++) {
            x.pass(1);
        }
        for (int i = 0; i < undone; i++) {
            x.undo();
        }
        for (int i = 0; i < 4; i++) {
            x.pass(10);
        }
        String name = before + " actions, " + undone + " undone, four more: ";
        int states = Math.min(5, Math.min(5, before) - undone + 4);
        b.due(name + "states", x.count(14), states);
        for (int left = states - 1; left >= states - 4; left--) {
            b.due(name + "undo", x.undo(), left);
            b.due(name + "the ticks", x.count(0), before - undone + 10 * (left - states + 4));
        }
        if (states == 5) {
            b.due(name + "undo of one from before", x.undo(), 0);
            b.due(name + "the ticks", x.count(0), before - undone - 1);
        }
        b.due(name + "undo of nothing", x.undo(), ILLEGAL);
    }

    private static Scene.Call[] actions() {
        return new Scene.Call[] {
            x -> x.setZone(0, 2, 20, 1), x -> x.setCurve(3, 5, 20), x -> x.set(3, 9), x -> x.load(3, 9),
            x -> x.takeOff(2), x -> x.pass(1), x -> x.take(0), x -> x.restore(1), BeggingBoards::carryOut};
    }

    private static void theSixthOfEachAction(Bounds b) {
        b.sentence(10, "Every successful call of a method that is called an action records the state before it");
        String[] names = {"setZone", "setCurve", "set", "load", "takeOff", "pass", "take", "restore", "carryOut"};
        Scene.Call[] actions = actions();
        for (int states = 0; states <= 5; states++) {
            for (int action = 0; action < actions.length; action++) {
                Scene scene = withStates(states, names[action].equals("takeOff"));
                Scene.Call it = actions[action];
                String name = states + " states, then " + names[action];
                BeggingBoards x = scene.make();
                b.due(name + ": states before", x.count(14), states);
                b.holds(name + " is not refused", it.on(x) >= 0);
                b.recordsOnce(scene, names[action], states, it);
                for (int left = Math.min(5, states + 1) - 1; left >= 0; left--) {
                    b.due(name + ": undo", x.undo(), left);
                }
                b.due(name + ": undo of nothing", x.undo(), ILLEGAL);
                // The oldest state that is left is that before the bound was set to 0, or that after it.
                b.due(name + ": the oldest state", x.count(9), states == 5 ? 0 : 6);
            }
        }
    }

    /** Two boards have left, the slot 1 is filled, all of that is in no state of the history. */
    private static Scene withStates(int states, boolean onBelt) {
        return FRESH.then(states + " states", x -> {
            x.load(0, 1);
            x.pass(3);
            x.load(0, 1);
            x.pass(12);
            if (onBelt) {
                x.load(0, 1);
            }
            x.take(1);
            for (int i = 0; i < 5; i++) {
                x.set(3, 1);
            }
            // The states that are kept are all of the same oven, and are gone one after another.
            for (int i = 0; i < 5; i++) {
                x.undo();
            }
            for (int i = 0; i < states; i++) {
                x.set(2, i);
            }
            Scenes.write(x, "p1");
        });
    }

    private static void alsoIfNothingChanges(Bounds b) {
        b.sentence(10, "(also if nothing changes by it)");
        b.does(FRESH, "set() to what it is", 2, x -> x.set(0, 2));
        b.does(FRESH, "setCurve() to what it is", 40, x -> x.setCurve(0, 0, 40));
        b.does(FRESH, "setZone() to what it is", 24, x -> x.setZone(0, 4, 120, 5));
        Scene kept = FRESH.then("a snapshot", x -> x.take(0));
        b.does(kept, "take() of the same again", 0, x -> x.take(0));
        b.does(kept, "restore() of what is", 0, x -> x.restore(0));
        Scene refused = FRESH.then("an order that is refused", x -> Scenes.write(x, "p0"));
        b.recordsOnce(refused, "carryOut() of no order", 0, BeggingBoards::carryOut);
    }

    private static void refusedCallsRecordNothing(Bounds b) {
        b.sentence(10, "Every successful call of a method that is called an action records the state before it");
        int[] howMany = {0, 1, 4, 5};
        for (int states : howMany) {
            Scene scene = withStates(states, true);
            b.refuses(scene, "setZone", ILLEGAL, x -> x.setZone(0, 4, 120, 5));
            b.refuses(scene, "setZone", INVALID, x -> x.setZone(6, 4, 120, 5));
            b.refuses(scene, "setCurve", INVALID, x -> x.setCurve(0, 0, 100));
            b.refuses(scene, "set", INVALID, x -> x.set(0, 4));
            b.refuses(scene, "load", ILLEGAL, x -> x.load(0, 1));
            b.refuses(scene, "takeOff", ILLEGAL, x -> x.takeOff(0));
            b.refuses(scene, "pass", INVALID, x -> x.pass(0));
            b.refuses(scene, "take", INVALID, x -> x.take(2));
            b.refuses(scene, "restore", ILLEGAL, x -> x.restore(0));
            b.refuses(scene.then("a text with a fault", x -> x.append(';')), "carryOut", -2003, BeggingBoards::carryOut);
        }
    }

    private static void theSlotsBelongToAState(Bounds b) {
        b.sentence(10, "a state is everything but the text and the history (the slots belong to it)");
        BeggingBoards x = FRESH.make();
        x.take(0);
        b.due("undo of the first take", x.undo(), 0);
        b.due("snapshots", x.count(13), 0);
        b.due("the slot is empty", x.restore(0), ILLEGAL);
        x.pass(1);
        x.take(0);
        x.pass(1);
        x.take(0);
        x.undo();
        b.due("undo of a take in place of one: that one", x.restore(0), 1);
        x.undo();
        b.due("undo of restore: the ticks", x.count(0), 2);
        b.due("undo of restore: snapshots", x.count(13), 1);
        Scene two = FRESH.then("the ticks 3 and 5 are kept", y -> {
            y.pass(3);
            y.take(0);
            y.pass(2);
            y.take(1);
        });
        BeggingBoards z = two.make();
        int[] snapshots = {1, 1, 0, 0};
        for (int undone = 0; undone < 4; undone++) {
            z.undo();
            b.due("snapshots after undo " + undone, z.count(13), snapshots[undone]);
        }
        BeggingBoards w = two.then("the slots of two states differ", y -> {
            y.pass(1);
            y.take(0);
            y.undo();
        }).make();
        b.due("the slot 0", w.restore(0), 3);
        b.due("the slot 1", w.restore(1), 5);
    }

    private static void theTextDoesNot(Bounds b) {
        b.sentence(10, "a state is everything but the text and the history");
        BeggingBoards x = FRESH.make();
        x.pass(1);
        x.append('p');
        x.append('2');
        x.undo();
        b.due("the text stays", x.count(15), 2);
        b.due("as it is", x.carryOut(), 1);
        b.due("two ticks", x.count(0), 2);
        x.undo();
        b.due("the text that was carried out stays empty", x.count(15), 0);
        b.due("the ticks are undone", x.count(0), 0);
    }
}
