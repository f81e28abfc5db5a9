/** Promises 8 to 10: take, restore, undo. */
public final class SnapshotsTest {
    private static final int INVALID = BeggingBoards.INVALID_ARGUMENT;
    private static final int ILLEGAL = BeggingBoards.ILLEGAL_STATE;
    private static final int LOW = Integer.MIN_VALUE;
    private static final int HIGH = Integer.MAX_VALUE;

    private SnapshotsTest() {
    }

    public static void main(String[] args) {
        Check check = new Check("SnapshotsTest");
        wrongSlots(check);
        takeAndRestore(check);
        aSnapshotKeepsEverything(check);
        theTextIsNotKept(check);
        undoOfEachAction(check);
        pleasAreKept(check);
        onlyActionsAreRecorded(check);
        fiveStates(check);
        undoBringsSlotsBack(check);
        check.end();
    }

    private static void wrongSlots(Check check) {
        BeggingBoards x = new BeggingBoards();
        int[] wrong = {-1, 2, LOW, HIGH};
        for (int slot : wrong) {
            check.due("take " + slot, x.take(slot), INVALID);
            check.due("restore " + slot, x.restore(slot), INVALID);
        }
        check.due("restore an empty slot 0", x.restore(0), ILLEGAL);
        check.due("restore an empty slot 1", x.restore(1), ILLEGAL);
        check.due("nothing is recorded", x.count(14) + x.count(13), 0);
    }

    private static void takeAndRestore(Check check) {
        BeggingBoards x = new BeggingBoards();
        x.pass(7);
        check.due("take", x.take(0), 7);
        check.due("a snapshot", x.count(13), 1);
        check.due("take is an action", x.count(14), 2);
        check.due("the other slot is empty", x.restore(1), ILLEGAL);
        x.pass(3);
        check.due("take in the other slot", x.take(1), 10);
        check.due("two snapshots", x.count(13), 2);
        check.due("restore", x.restore(0), 7);
        check.due("the ticks are as they were", x.count(0), 7);
        check.due("restore is an action", x.count(14), 5);
        check.due("the snapshots stay", x.count(13), 2);
        x.pass(1);
        check.due("it can be restored again", x.restore(0), 7);
        check.due("and the other one", x.restore(1), 10);
        x.pass(5);
        check.due("take in place of one", x.take(0), 15);
        check.due("there are still two", x.count(13), 2);
        x.pass(1);
        check.due("the new one is restored", x.restore(0), 15);
    }

    /** All that is there to be kept has changed from what it is at first. */
    private static BeggingBoards eventful() {
        BeggingBoards x = new BeggingBoards();
        for (int zone = 0; zone < 6; zone++) {
            x.setZone(zone, 3 + zone % 3, 150 + 20 * zone, 2 + zone);
        }
        for (int curve = 0; curve < 4; curve++) {
            for (int what = 0; what < 6; what++) {
                x.setCurve(curve, what, 21 + 5 * curve + what);
            }
        }
        x.set(0, 3);
        x.set(1, 2);
        x.set(2, 2);
        x.set(3, 8);
        for (int board = 0; board < 12; board++) {
            x.load(board % 4, 1 + board % 9);
            x.pass(2);
        }
        x.takeOff(10);
        x.set(2, 3);
        x.load(1, 4);
        x.pass(1);
        x.set(1, 1);
        return x;
    }

    private static void upset(BeggingBoards x) {
        x.pass(40);
        for (int zone = 0; zone < 6; zone++) {
            x.setZone(zone, 8 - zone, 40 + 30 * zone, 15);
        }
        for (int curve = 0; curve < 4; curve++) {
            for (int what = 0; what < 6; what++) {
                x.setCurve(curve, what, 50 + what);
            }
        }
        x.set(0, 1);
        x.set(1, 1);
        x.set(2, 9);
        x.set(3, 4);
        for (int board = 0; board < 9; board++) {
            x.load(0, 9 - board);
            x.pass(1);
        }
    }

    private static void aSnapshotKeepsEverything(Check check) {
        BeggingBoards x = eventful();
        String before = Looking.atOven(x);
        check.holds("boards on the belt, left, and taken off", x.count(2) > 0 && x.count(3) > 0 && x.count(5) > 0);
        check.holds("the speed changed by pleas", x.count(11) + x.count(12) > 0);
        x.take(1);
        check.holds("take changes nothing in the oven", Looking.atOven(x).equals(before));
        upset(x);
        check.holds("all is upset", !Looking.atOven(x).equals(before));
        x.restore(1);
        check.holds("all is as it was", Looking.atOven(x).equals(before));
        BeggingBoards same = eventful();
        same.pass(9);
        x.pass(9);
        check.holds("and goes on as it would have", Looking.atOven(x).equals(Looking.atOven(same)));
        upset(x);
        x.restore(1);
        check.holds("all is as it was once more", Looking.atOven(x).equals(before));
    }

    private static void theTextIsNotKept(Check check) {
        BeggingBoards x = new BeggingBoards();
        x.append('p');
        x.take(0);
        x.append('1');
        x.restore(0);
        check.due("the text stays with restore", x.count(15), 2);
        x.undo();
        x.undo();
        check.due("the text stays with undo", x.count(15), 2);
        check.due("and its characters too", x.carryOut(), 1);
        check.due("one tick", x.count(0), 1);
        x.undo();
        check.due("undo of carryOut does not bring the text back", x.count(15), 0);
    }

    private static void undoOfEachAction(Check check) {
        for (int action = 0; action < 9; action++) {
            BeggingBoards x = eventful();
            x.take(0);
            x.append('t');
            x.append('1');
            x.append('1');
            // setZone needs an empty belt.
            x.pass(action == 8 ? 99 : 1);
            x.set(0, 1);
            x.set(2, 4 + action);
            String before = Looking.atOven(x) + x.count(13);
            act(x, action);
            check.due("an action is recorded: " + action, x.undo(), 4);
            check.holds("all is as it was before the action " + action,
                    before.equals(Looking.atOven(x) + x.count(13)));
        }
        BeggingBoards y = new BeggingBoards();
        y.load(0, 1);
        check.due("the first action is undone", y.undo(), 0);
        check.holds("to a new object", Looking.atAll(y).equals(Looking.atAll(new BeggingBoards())));
    }

    /** The speed becomes less and greater by pleas after the snapshot. */
    private static void pleasAreKept(Check check) {
        BeggingBoards x = new BeggingBoards();
        x.set(3, 0);
        x.set(2, 1);
        x.setCurve(0, 1, 20);
        x.setCurve(0, 3, 2);
        x.load(0, 1);
        x.take(0);
        x.pass(1);
        check.due("less", x.count(11) * 100 + x.count(12) * 10 + x.count(7), 101);
        x.take(1);
        x.pass(5);
        check.due("and greater", x.count(11) * 100 + x.count(12) * 10 + x.count(7), 123);
        x.restore(1);
        check.due("as after the first tick", x.count(11) * 100 + x.count(12) * 10 + x.count(7), 101);
        x.restore(0);
        check.due("as at first", x.count(11) * 100 + x.count(12) * 10 + x.count(7), 2);
        x.undo();
        x.undo();
        check.due("undone", x.count(11) * 100 + x.count(12) * 10 + x.count(7), 123);
    }

    private static void act(BeggingBoards x, int action) {
        switch (action) {
            case 0 -> x.pass(99);
            case 1 -> x.setCurve(0, 0, 77);
            case 2 -> x.set(3, 3);
            case 3 -> x.load(2, 2);
            case 4 -> x.takeOff(11);
            case 5 -> x.take(1);
            case 6 -> x.restore(0);
            case 7 -> x.carryOut();
            default -> x.setZone(0, 2, 20, 1);
        }
    }

    private static void onlyActionsAreRecorded(Check check) {
        BeggingBoards x = new BeggingBoards();
        x.append('x');
        x.clearText();
        x.carryOut();
        for (int what = 0; what < 16; what++) {
            x.count(what);
        }
        x.zone(0, 0);
        x.curve(0, 0);
        x.room();
        x.heaviest(0);
        x.wouldFail(0, 1, 0);
        x.worstCell(0, 0);
        x.faultCells();
        check.due("no action yet", x.count(14), 0);
        x.load(4, 1);
        x.pass(0);
        x.takeOff(0);
        x.set(0, 4);
        x.setCurve(0, 0, 0);
        x.setZone(0, 1, 20, 1);
        x.take(2);
        x.restore(0);
        check.due("errors are not recorded", x.count(14), 0);
        check.due("so nothing can be undone", x.undo(), ILLEGAL);
        x.load(0, 1);
        x.board(0, 0);
        x.fault(0, 0, 0);
        x.foretell(0, 0);
        check.due("one action", x.count(14), 1);
        x.load(0, 1);
        check.due("a second one that failed", x.count(14), 1);
        x.set(0, 2);
        check.due("one by which nothing changes", x.count(14), 2);
        check.due("undo", x.undo(), 1);
        check.due("undo is no action", x.count(14), 1);
        check.due("undo", x.undo(), 0);
        check.due("undo of nothing", x.undo(), ILLEGAL);
        check.due("the board is gone", x.count(1), 0);
    }

    private static void fiveStates(Check check) {
        BeggingBoards x = new BeggingBoards();
        for (int i = 1; i <= 5; i++) {
            x.pass(1);
            check.due("states", x.count(14), i);
        }
        x.pass(0);
        x.pass(1);
        check.due("a sixth one drops the oldest", x.count(14), 5);
        x.pass(1);
        x.pass(0);
        for (int left = 4; left >= 0; left--) {
            check.due("undo", x.undo(), left);
            check.due("the ticks then", x.count(0), left + 2);
        }
        check.due("the older ones are dropped", x.undo(), ILLEGAL);
        x.pass(4);
        x.pass(5);
        check.due("then states come again", x.count(14), 2);
        x.undo();
        check.due("the latest first", x.count(0), 6);
        for (int i = 0; i < 23; i++) {
            x.pass(1);
        }
        for (int left = 4; left >= 0; left--) {
            x.undo();
            check.due("after many, the ticks", x.count(0), 24 + left);
        }
        check.due("five of many", x.undo(), ILLEGAL);
    }

    private static void undoBringsSlotsBack(Check check) {
        BeggingBoards x = new BeggingBoards();
        x.pass(1);
        x.take(0);
        x.undo();
        check.due("the slot is empty again", x.count(13), 0);
        check.due("and cannot be restored", x.restore(0), ILLEGAL);
        x.take(0);
        x.pass(2);
        x.take(0);
        check.due("the later snapshot", x.restore(0), 3);
        x.undo();
        x.undo();
        check.due("the earlier snapshot", x.restore(0), 1);
        x.pass(9);
        x.take(1);
        check.due("two", x.count(13), 2);
        x.undo();
        x.undo();
        x.undo();
        check.due("before restore: the ticks", x.count(0), 3);
        check.due("one", x.count(13), 1);
        BeggingBoards y = new BeggingBoards();
        y.take(0);
        y.pass(3);
        y.take(1);
        y.restore(0);
        check.due("restoring leaves the slots as they are", y.restore(1), 3);
        check.due("also the history", y.count(14), 5);
    }
}
