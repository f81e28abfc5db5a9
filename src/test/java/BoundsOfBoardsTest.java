import java.io.IOException;

/** Boundary cases of the promises 5 to 7: load, takeOff, pass; those of the steps of a tick are in BoundsOfTicksTest. */
public final class BoundsOfBoardsTest {
    private static final int INVALID = BeggingBoards.INVALID_ARGUMENT;
    private static final int ILLEGAL = BeggingBoards.ILLEGAL_STATE;
    private static final int FULL = BeggingBoards.CAPACITY_EXCEEDED;
    private static final int NONE = BeggingBoards.NONE;
    private static final Scene FRESH = Scenes.FRESH;

    private BoundsOfBoardsTest() {
    }

    public static void main(String[] args) throws IOException {
        Bounds b = new Bounds("BoundsOfBoardsTest", 5, 6, 7);
        loadOutside(b);
        loadInside(b);
        gap(b);
        gapWiderThanTheBelt(b);
        boardsThatAreInNoGap(b);
        thirtyBoards(b);
        theFirstErrorOfLoad(b);
        takeOffOutside(b);
        takeOffInside(b);
        takeOffOfOneThatIsNotOnTheBelt(b);
        passOutside(b);
        passInside(b);
        lastTick(b);
        theFirstErrorOfPass(b);
        numberThatLeaves(b);
        b.end();
    }

    /** A belt on which the speed stays, and boards change no zone. */
    private static Scene steady(int speed, int gap) {
        return FRESH.then("the speed " + speed + ", the gap " + gap, x -> {
            x.set(0, speed);
            x.set(1, gap);
            x.set(2, 0);
            x.set(3, 0);
        });
    }

    // ---- promise 5

    private static void loadOutside(Bounds b) {
        b.sentence(5, "`curve`: 0 to 3");
        b.outside(Scenes.ALL, "load(.., 1)", 0, 3, (x, v) -> x.load(v, 1));
        b.sentence(5, "`weight`: 1 to 9");
        b.outside(Scenes.ALL, "load(0, ..)", 1, 9, (x, v) -> x.load(0, v));
        b.sentence(5, "INVALID_ARGUMENT if an argument is out of range");
        b.refuses(FRESH, "load(4, 0)", INVALID, x -> x.load(4, 0));
    }

    private static void loadInside(Bounds b) {
        for (int curve = 0; curve <= 3; curve += 3) {
            for (int weight = 1; weight <= 9; weight += 8) {
                b.sentence(5, curve == 0 ? "`curve`: 0 to 3" : "`weight`: 1 to 9");
                boardIsLoaded(b, FRESH, curve, weight, 0);
                boardIsLoaded(b, Scenes.LATE, curve, weight, 1);
                boardIsLoaded(b, Scenes.EMPTIED, curve, weight, 3);
            }
        }
    }

    private static void boardIsLoaded(Bounds b, Scene scene, int curve, int weight, int number) {
        String call = "load(" + curve + ", " + weight + ")";
        Scene.Call it = x -> x.load(curve, weight);
        b.does(scene, call, number, it);
        b.sentence(5, "It has 20 degrees, and a peak of 20 degrees, when it is loaded, at cell 0");
        BeggingBoards x = scene.make();
        it.on(x);
        int[] told = {curve, weight, 0, 0, 20, 0, 20, 0, 0, 0, NONE};
        for (int what = 0; what <= 10; what++) {
            b.due(call + ", then board " + number + " " + what, x.board(number, what), told[what]);
        }
        for (int kind = 0; kind < 5; kind++) {
            b.due(call + ", then its fault " + kind, x.fault(number, kind, 0), NONE);
        }
        b.due(call + ", then in zone 0", x.zone(0, 5) * 10 + x.zone(0, 6), 10 + weight);
        b.due(call + ", then loaded", x.count(1), number + 1);
        b.due(call + ", then the next board", x.board(number + 1, 0), INVALID);
    }

    private static void gap(Bounds b) {
        b.sentence(5, "ILLEGAL_STATE if a board is on the belt in a cell that is less than the gap");
        for (int gap = 1; gap <= 20; gap++) {
            Scene justIn = steady(1, gap).then("a board in the last cell of the gap", x -> {
                x.load(0, 1);
                passAll(x, x.count(8) - 1);
            });
            b.due("the gap " + gap + ", its cell", justIn.make().board(0, 3), gap - 1);
            b.refuses(justIn, "load", ILLEGAL, x -> x.load(3, 9));
            Scene justOut = justIn.then("one tick more", x -> x.pass(1));
            b.due("the gap " + gap + ", its cell then", justOut.make().board(0, 3), gap);
            b.does(justOut, "load", 1, x -> x.load(3, 9));
            b.refuses(justOut.then("a second one", x -> x.load(0, 1)), "load", ILLEGAL, x -> x.load(3, 9));
            int wider = gap + 1;
            if (wider <= 20) {
                b.refuses(justOut.then("a wider gap", x -> x.set(1, wider)), "load", ILLEGAL, x -> x.load(3, 9));
            }
        }
        Scene one = steady(1, 1).then("one after the other", x -> {
            x.load(0, 1);
            x.pass(1);
            x.load(0, 1);
        });
        b.refuses(one, "load at the gap 1, one is at cell 0", ILLEGAL, x -> x.load(0, 1));
        b.does(one.then("a tick", x -> x.pass(1)), "load at the gap 1, they are at 1 and 2", 2, x -> x.load(0, 1));
        Scene later = one.then("two ticks, and the gap 3", x -> {
            x.pass(2);
            x.set(1, 3);
        });
        b.refuses(later, "load, the first one is out of the gap, the second one is not", ILLEGAL, x -> x.load(0, 1));
    }

    private static void passAll(BeggingBoards x, int ticks) {
        if (ticks > 0) {
            x.pass(ticks);
        }
    }

    private static void gapWiderThanTheBelt(Bounds b) {
        b.sentence(5, "ILLEGAL_STATE if a board is on the belt in a cell that is less than the gap");
        Scene last = Scenes.evenBelt(2, 1).then("the widest gap, a board in the last cell", x -> {
            x.set(1, 20);
            x.load(0, 1);
            x.pass(11);
        });
        b.due("its cell", last.make().board(0, 3), 11);
        b.refuses(last, "load", ILLEGAL, x -> x.load(0, 1));
        b.does(last.then("it leaves", x -> x.pass(1)), "load", 1, x -> x.load(0, 1));
    }

    private static void boardsThatAreInNoGap(Bounds b) {
        b.sentence(5, "It is on the belt, at a cell, or it has left at the end, or it was taken off");
        Scene one = steady(1, 20).then("a board at cell 0", x -> x.load(0, 1));
        b.refuses(one, "load", ILLEGAL, x -> x.load(0, 1));
        b.does(one.then("it was taken off", x -> x.takeOff(0)), "load", 1, x -> x.load(0, 1));
        b.does(one.then("it has left", x -> x.pass(24)), "load", 1, x -> x.load(0, 1));
        b.does(one.then("it is undone", BeggingBoards::undo), "load", 0, x -> x.load(0, 1));
    }

    private static Scene boards(int howMany) {
        return steady(2, 1).then(howMany + " boards loaded", x -> {
            for (int board = 0; board < howMany; board++) {
                x.load(board % 4, 1 + board % 9);
                x.pass(1);
            }
        });
    }

    private static void thirtyBoards(Bounds b) {
        b.sentence(5, "There are at most 30 boards, numbered from 0 in the order in which they were loaded");
        b.does(boards(28), "load number 28", 28, x -> x.load(0, 1));
        b.does(boards(29), "load number 29", 29, x -> x.load(0, 1));
        b.due("loaded by then", boards(29).then("one more", x -> x.load(0, 1)).make().count(1), 30);
        b.sentence(5, "CAPACITY_EXCEEDED if 30 boards have been loaded");
        b.refuses(boards(30), "load number 30", FULL, x -> x.load(0, 1));
        b.refuses(boards(30), "load(3, 9)", FULL, x -> x.load(3, 9));
        b.refuses(Scenes.FULL, "load", FULL, x -> x.load(0, 1));
        b.refuses(boards(30).then("all have left", x -> x.pass(24)), "load", FULL, x -> x.load(0, 1));
        b.refuses(boards(30).then("some were taken off", x -> {
            for (int board = 20; board < 30; board++) {
                x.takeOff(board);
            }
        }), "load", FULL, x -> x.load(0, 1));
        b.does(boards(30).then("the last one is undone", x -> {
            x.undo();
            x.undo();
        }), "load", 29, x -> x.load(0, 1));
    }

    private static void theFirstErrorOfLoad(Bounds b) {
        b.sentence(5, "If several error conditions apply, the method returns the one that its description lists first");
        Scene inTheGap = boards(29).then("the thirtieth is at cell 0", x -> x.load(0, 1));
        b.refuses(inTheGap, "load, wrong, in the gap, and no room", INVALID, x -> x.load(4, 1));
        b.refuses(inTheGap, "load, wrong, in the gap, and no room", INVALID, x -> x.load(0, 10));
        b.refuses(inTheGap, "load in the gap, and no room", ILLEGAL, x -> x.load(0, 1));
        b.refuses(boards(30), "load, wrong, and no room", INVALID, x -> x.load(-1, 1));
        b.refuses(boards(30), "load, wrong, and no room", INVALID, x -> x.load(0, 0));
        Scene one = FRESH.then("a board at cell 0", x -> x.load(0, 1));
        b.refuses(one, "load, wrong, and in the gap", INVALID, x -> x.load(4, 9));
        b.refuses(one, "load, wrong, and in the gap", INVALID, x -> x.load(3, 0));
    }

    // ---- promise 6

    private static void takeOffOutside(Bounds b) {
        b.sentence(6, "INVALID_ARGUMENT if there is no such board");
        for (Scene scene : Scenes.ALL) {
            Scene[] here = {scene};
            b.outside(here, "takeOff(..)", 0, scene.make().count(1) - 1, BeggingBoards::takeOff);
            b.refuses(scene, "takeOff(30)", INVALID, x -> x.takeOff(30));
            b.refuses(scene, "takeOff(31)", INVALID, x -> x.takeOff(31));
        }
        b.refuses(FRESH.then("a board that was undone", x -> {
            x.load(0, 1);
            x.undo();
        }), "takeOff(0)", INVALID, x -> x.takeOff(0));
    }

    private static void takeOffInside(Bounds b) {
        b.sentence(6, "Returns the cell where it was");
        Scene longest = Scenes.evenBelt(8, 1).then("a board", x -> x.load(0, 1));
        b.does(longest, "takeOff at the first cell", 0, x -> x.takeOff(0));
        b.does(longest.then("a tick", x -> x.pass(1)), "takeOff at cell 1", 1, x -> x.takeOff(0));
        b.does(longest.then("47 ticks", x -> x.pass(47)), "takeOff at the last cell", 47, x -> x.takeOff(0));
        Scene thirty = Scenes.thirtyInARow();
        b.does(thirty, "takeOff of the first one", 29, x -> x.takeOff(0));
        b.does(thirty, "takeOff of the last one", 0, x -> x.takeOff(29));
        BeggingBoards x = thirty.make();
        x.takeOff(29);
        b.due("taken off", x.board(29, 2), 2);
        b.due("in no cell", x.board(29, 3), NONE);
        b.due("the other ones stay", x.count(2) * 10 + x.count(5), 291);
        b.due("where they are", x.board(28, 3), 1);
    }

    private static void takeOffOfOneThatIsNotOnTheBelt(Bounds b) {
        b.sentence(6, "ILLEGAL_STATE if it is not on the belt");
        Scene last = steady(1, 1).then("a board in the last cell", x -> {
            x.load(0, 1);
            x.pass(23);
        });
        b.does(last, "takeOff(0)", 23, x -> x.takeOff(0));
        b.refuses(last.then("it leaves", x -> x.pass(1)), "takeOff(0)", ILLEGAL, x -> x.takeOff(0));
        b.refuses(last.then("it was taken off", x -> x.takeOff(0)), "takeOff(0)", ILLEGAL, x -> x.takeOff(0));
        b.refuses(Scenes.EMPTIED, "takeOff of one that has left", ILLEGAL, x -> x.takeOff(0));
        b.refuses(Scenes.EMPTIED, "takeOff of one taken off", ILLEGAL, x -> x.takeOff(2));
        b.does(last.then("that is undone", x -> {
            x.takeOff(0);
            x.undo();
        }), "takeOff(0)", 23, x -> x.takeOff(0));
    }

    // ---- promise 7

    private static void passOutside(Bounds b) {
        b.sentence(7, "`ticks`: 1 to 99");
        b.outside(Scenes.ALL, "pass(..)", 1, 99, BeggingBoards::pass);
        b.sentence(7, "INVALID_ARGUMENT if ticks is out of range");
        b.refuses(Scenes.BUSY, "pass(5000)", INVALID, x -> x.pass(5000));
        b.refuses(Scenes.BUSY, "pass(-99)", INVALID, x -> x.pass(-99));
    }

    private static void passInside(Bounds b) {
        b.sentence(7, "`ticks`: 1 to 99");
        b.does(FRESH, "pass(1)", 0, x -> x.pass(1));
        b.does(FRESH, "pass(99)", 0, x -> x.pass(99));
        b.does(Scenes.EMPTIED, "pass(99)", 0, x -> x.pass(99));
        b.does(Scenes.BUSY, "pass(99)", Scenes.BUSY.make().count(2), x -> x.pass(99));
        b.due("ticks after 1", FRESH.then("", x -> x.pass(1)).make().count(0), 1);
        b.due("ticks after 99", FRESH.then("", x -> x.pass(99)).make().count(0), 99);
        b.sentence(7, "Then one tick more has passed");
        BeggingBoards once = Scenes.BUSY.make();
        BeggingBoards oftener = Scenes.BUSY.make();
        once.pass(9);
        for (int i = 0; i < 9; i++) {
            oftener.pass(1);
        }
        b.holds("nine ticks at once are nine ticks", Looking.atOven(once).equals(Looking.atOven(oftener)));
    }

    private static Scene after(int ticks) {
        return FRESH.then(ticks + " ticks", x -> {
            for (int i = 0; i < ticks / 99; i++) {
                x.pass(99);
            }
            passAll(x, ticks % 99);
        });
    }

    private static void lastTick(Bounds b) {
        b.sentence(7, "CAPACITY_EXCEEDED if more than 5000 ticks would have passed");
        b.does(after(4998), "pass(1)", 0, x -> x.pass(1));
        b.does(after(4999), "pass(1)", 0, x -> x.pass(1));
        b.refuses(after(4999), "pass(2)", FULL, x -> x.pass(2));
        b.refuses(after(4999), "pass(99)", FULL, x -> x.pass(99));
        b.does(after(4901), "pass(99)", 0, x -> x.pass(99));
        b.refuses(after(4902), "pass(99)", FULL, x -> x.pass(99));
        b.does(after(4902), "pass(98)", 0, x -> x.pass(98));
        b.due("ticks then", after(4902).then("", x -> x.pass(98)).make().count(0), 5000);
        b.refuses(after(5000), "pass(1)", FULL, x -> x.pass(1));
        b.refuses(after(5000), "pass(99)", FULL, x -> x.pass(99));
        b.refuses(Scenes.LATE, "pass(1)", FULL, x -> x.pass(1));
        b.does(after(5000).then("undone", BeggingBoards::undo), "pass(1)", 0, x -> x.pass(1));
        Scene leaving = after(4999).then("a board that would leave", x -> {
            x.undo();
            x.load(0, 1);
            x.pass(11);
        });
        int left = 5000 - leaving.make().count(0);
        b.does(leaving, "the tick in which it leaves", 1, x -> x.pass(1));
        b.does(leaving, "all ticks that are left", 1, x -> x.pass(left));
        b.refuses(leaving, "one tick too many, none passes", FULL, x -> x.pass(left + 1));
    }

    private static void theFirstErrorOfPass(Bounds b) {
        b.sentence(7, "If several error conditions apply, the method returns the one that its description lists first");
        b.refuses(after(5000), "pass(0)", INVALID, x -> x.pass(0));
        b.refuses(after(5000), "pass(100)", INVALID, x -> x.pass(100));
        b.refuses(after(5000), "pass(greatest)", INVALID, x -> x.pass(Integer.MAX_VALUE));
        b.refuses(after(5000), "pass(smallest)", INVALID, x -> x.pass(Integer.MIN_VALUE));
        b.refuses(after(4950), "pass(100)", INVALID, x -> x.pass(100));
    }

    private static void numberThatLeaves(Bounds b) {
        b.sentence(7, "Returns the number of boards that leave");
        Scene thirty = Scenes.thirtyInARow();
        // The last cell is cell 47.
        b.does(thirty, "pass(18)", 0, x -> x.pass(18));
        b.does(thirty, "pass(19)", 1, x -> x.pass(19));
        b.does(thirty, "pass(20)", 2, x -> x.pass(20));
        b.does(thirty, "pass(47)", 29, x -> x.pass(47));
        b.does(thirty, "pass(48)", 30, x -> x.pass(48));
        b.does(thirty, "pass(99)", 30, x -> x.pass(99));
        b.does(thirty.then("one was taken off", x -> x.takeOff(15)), "pass(99)", 29, x -> x.pass(99));
        b.does(thirty.then("all have left", x -> x.pass(99)), "pass(99)", 0, x -> x.pass(99));
        Scene fast = thirty.then("the speed 3", x -> x.set(0, 3));
        b.does(fast.then("six ticks", x -> x.pass(6)), "three leave in one tick", 3, x -> x.pass(1));
    }
}
