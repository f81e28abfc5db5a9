import java.io.IOException;

/** Boundary cases of the promises 14 and 17: count and board; those of the faults are in BoundsOfFaultsTest. */
public final class BoundsOfLookingTest {
    private static final int INVALID = BeggingBoards.INVALID_ARGUMENT;
    private static final int NONE = BeggingBoards.NONE;
    private static final Scene FRESH = Scenes.FRESH;

    private BoundsOfLookingTest() {
    }

    public static void main(String[] args) throws IOException {
        Bounds b = new Bounds("BoundsOfLookingTest", 14, 17);
        countOutside(b);
        countInside(b);
        countsAtTheirGreatest(b);
        countOfThoseWithoutAFault(b);
        thoseThatWereUndoneAreCountedNowhere(b);
        boardOutside(b);
        boardInside(b);
        noneIsNoError(b);
        latestOnTheBelt(b);
        atMost512Calls(b);
        b.end();
    }

    // ---- promise 14

    private static void countOutside(Bounds b) {
        b.sentence(14, "Returns the number; INVALID_ARGUMENT if what is out of range");
        b.outside(Scenes.ALL, "count(..)", 0, 15, BeggingBoards::count);
    }

    private static void countInside(Bounds b) {
        b.sentence(14, "`what`: 0 the ticks that have passed");
        int[] late = {5000, 1, 1, 0, 0, 0, 24, 2, 3, 6, 1, 0, 0, 1, 5, 5};
        int[] fresh = {0, 0, 0, 0, 0, 0, 24, 2, 3, 6, 1, 0, 0, 0, 0, 0};
        for (int what = 0; what <= 15; what++) {
            int number = what;
            b.tells(FRESH, "count(" + what + ")", fresh[what], x -> x.count(number));
            b.tells(Scenes.LATE, "count(" + what + ")", late[what], x -> x.count(number));
        }
    }

    private static void countsAtTheirGreatest(Bounds b) {
        b.sentence(14, "1 the number of boards loaded, 2 of boards on the belt, 3 of those that have left");
        Scene thirty = Scenes.thirtyInARow();
        whereTheyAre(b, thirty, 30, 0, 0, 0);
        whereTheyAre(b, thirty.then("18 ticks", x -> x.pass(18)), 30, 0, 0, 0);
        whereTheyAre(b, thirty.then("19 ticks", x -> x.pass(19)), 29, 1, 0, 0);
        whereTheyAre(b, thirty.then("47 ticks", x -> x.pass(47)), 1, 29, 0, 0);
        whereTheyAre(b, thirty.then("48 ticks", x -> x.pass(48)), 0, 30, 0, 0);
        whereTheyAre(b, thirty.then("48 ticks, and no board can have a fault", x -> {
            x.setCurve(0, 2, 0);
            x.setCurve(0, 4, 20);
            x.pass(48);
        }), 0, 30, 30, 0);
        b.sentence(14, "5 of boards taken off");
        Scene off = thirty.then("all are taken off", x -> {
            for (int board = 0; board < 30; board++) {
                x.takeOff(board);
            }
        });
        whereTheyAre(b, off, 0, 0, 0, 30);
        whereTheyAre(b, off.then("99 ticks", x -> x.pass(99)), 0, 0, 0, 30);
    }

    private static void whereTheyAre(Bounds b, Scene scene, int onBelt, int left, int faultless, int takenOff) {
        int[] due = {30, onBelt, left, faultless, takenOff};
        for (int what = 1; what <= 5; what++) {
            int number = what;
            b.tells(scene, "count(" + what + ")", due[what - 1], x -> x.count(number));
        }
    }

    private static void countOfThoseWithoutAFault(Bounds b) {
        b.sentence(14, "4 of those of these that have no fault");
        Scene last = Scenes.flat(20).then("two boards, one on a curve without faults, in the last cells", x -> {
            x.setCurve(1, 2, 0);
            x.setCurve(1, 4, 20);
            x.set(0, 1);
            x.set(1, 1);
            x.load(0, 1);
            x.pass(1);
            x.load(1, 1);
            x.pass(22);
        });
        b.tells(last, "none has left", 0, x -> x.count(4));
        b.tells(last.then("one leaves, with faults", x -> x.pass(1)), "count(4)", 0, x -> x.count(4));
        b.tells(last.then("the other leaves, without", x -> x.pass(2)), "count(4)", 1, x -> x.count(4));
        b.tells(last.then("it was taken off", x -> x.takeOff(1)), "count(4)", 0, x -> x.count(4));
    }

    private static void thoseThatWereUndoneAreCountedNowhere(Bounds b) {
        b.sentence(14, "1 the number of boards loaded, 2 of boards on the belt, 3 of those that have left");
        Scene curve = Scenes.flat(100).then("a curve without faults", x -> {
            x.setCurve(0, 2, 0);
            x.setCurve(0, 4, 20);
        });
        Scene left = curve.then("a board that has left", x -> {
            x.load(0, 1);
            x.pass(12);
        });
        b.due("left without a fault", left.make().count(4), 1);
        Scene[] scenes = {
            left.then("undone", x -> {
                x.undo();
                x.undo();
            }),
            curve.then("a board that was taken off, undone", x -> {
                x.load(0, 1);
                x.takeOff(0);
                x.undo();
                x.undo();
            }),
            curve.then("a board on the belt, undone", x -> {
                x.load(0, 1);
                x.pass(1);
                x.undo();
                x.undo();
            }),
            curve.then("a board that has left, after a snapshot that is restored", x -> {
                x.take(0);
                x.load(0, 1);
                x.pass(12);
                x.restore(0);
            }),
            curve.then("a board with a fault, after a snapshot that is restored", x -> {
                x.take(0);
                x.setCurve(0, 0, 1);
                x.load(0, 1);
                x.pass(1);
                x.restore(0);
            })};
        for (Scene scene : scenes) {
            for (int what = 1; what <= 5; what++) {
                b.due(scene.name + ", count " + what, scene.make().count(what), 0);
            }
            for (int zone = 0; zone < 6; zone++) {
                b.due(scene.name + ", in zone " + zone, scene.make().zone(zone, 5) + scene.make().zone(zone, 6), 0);
            }
            b.due(scene.name + ", with a fault", scene.make().worstCell(0, 1) + scene.make().faultCells(), 0);
            b.due(scene.name + ", room", scene.make().room(), 0);
        }
    }

    // ---- promise 17

    private static void boardOutside(Bounds b) {
        b.sentence(17, "INVALID_ARGUMENT if there is no such board or what is out of range");
        for (Scene scene : Scenes.ALL) {
            Scene[] here = {scene};
            int last = scene.make().count(1) - 1;
            b.outside(here, "board(.., 0)", 0, last, (x, v) -> x.board(v, 0));
            b.outside(here, "board(.., 10)", 0, last, (x, v) -> x.board(v, 10));
            b.refuses(scene, "board(30, 0)", INVALID, x -> x.board(30, 0));
            b.outside(here, "board(0, ..)", 0, 10, (x, v) -> x.board(0, v));
            b.outside(here, "board(last, ..)", 0, 10, (x, v) -> x.board(last, v));
        }
        b.refuses(FRESH.then("a board that was undone", x -> {
            x.load(0, 1);
            x.undo();
        }), "board(0, 0)", INVALID, x -> x.board(0, 0));
        b.refuses(FRESH.then("a board, and one that was undone", x -> {
            x.load(0, 1);
            x.take(0);
            x.pass(2);
            x.load(0, 1);
            x.restore(0);
        }), "board(1, 0)", INVALID, x -> x.board(1, 0));
    }

    private static void boardInside(Bounds b) {
        b.sentence(17, "0 its curve, 1 its weight, 2 its state (0 on the belt, 1 left, 2 taken off)");
        Scene thirty = Scenes.flat(20).then("thirty boards", x -> {
            x.set(0, 3);
            x.set(1, 1);
            for (int board = 0; board < 30; board++) {
                x.load(3 - board % 4, 9 - board % 9);
                x.pass(1);
            }
        });
        int[] first = {3, 9, 1, NONE, 20, 0, 20, 0, 24, 0, 7};
        int[] last = {2, 7, 0, 3, 20, 0, 20, 0, 0, 0, NONE};
        for (int what = 0; what <= 10; what++) {
            int number = what;
            b.tells(thirty, "board(0, " + what + ")", first[what], x -> x.board(0, number));
            b.tells(thirty, "board(29, " + what + ")", last[what], x -> x.board(29, number));
        }
        b.sentence(17, "5 its latest rise (0 before its first tick)");
        Scene hot = Scenes.flat(300).then("a board", x -> x.load(0, 1));
        b.tells(hot, "board(0, 5)", 0, x -> x.board(0, 5));
        b.tells(hot.then("a tick", x -> x.pass(1)), "board(0, 5)", 140, x -> x.board(0, 5));
    }

    private static void noneIsNoError(Bounds b) {
        b.sentence(17, "3 its cell (NONE if it is not on the belt)");
        Scene last = Scenes.flat(20).then("a board in the last cell", x -> {
            x.set(0, 1);
            x.load(0, 1);
            x.pass(23);
        });
        Scene left = last.then("it has left", x -> x.pass(1));
        Scene takenOff = last.then("it was taken off", x -> x.takeOff(0));
        b.tells(last, "board(0, 3)", 23, x -> x.board(0, 3));
        b.tells(left, "board(0, 3)", NONE, x -> x.board(0, 3));
        b.tells(takenOff, "board(0, 3)", NONE, x -> x.board(0, 3));
        b.sentence(17, "10 the tick at which it left (as for faults; NONE if it has not)");
        b.tells(last, "board(0, 10)", NONE, x -> x.board(0, 10));
        b.tells(left, "board(0, 10)", 23, x -> x.board(0, 10));
        b.tells(takenOff, "board(0, 10)", NONE, x -> x.board(0, 10));
        b.tells(takenOff.then("later", x -> x.pass(9)), "board(0, 10)", NONE, x -> x.board(0, 10));
        b.sentence(17, "NONE is no error, and it is returned only if no error condition applies");
        b.refuses(left, "board(1, 3)", INVALID, x -> x.board(1, 3));
        b.refuses(left, "board(0, 11)", INVALID, x -> x.board(0, 11));
    }

    private static void latestOnTheBelt(Bounds b) {
        b.sentence(17, "4 its degrees (the latest ones if it is not on the belt)");
        Scene two = Scenes.flat(120).then("two ticks", x -> {
            x.setCurve(0, 0, 30);
            x.load(0, 1);
            x.pass(1);
        });
        Scene off = two.then("taken off", x -> x.takeOff(0)).then("later", x -> x.pass(9));
        int[] told = {0, 1, 2, NONE, 70, 50, 70, 0, 1, 1, NONE};
        for (int what = 0; what <= 10; what++) {
            int number = what;
            b.tells(off, "board(0, " + what + ")", told[what], x -> x.board(0, number));
        }
        b.sentence(17, "9 its plea by its latest tick on the belt (0 none, 1 slower, 2 faster)");
        b.tells(two, "board(0, 9) after the first tick", 1, x -> x.board(0, 9));
        b.tells(two.then("a tick more", x -> x.pass(1)), "board(0, 9)", 0, x -> x.board(0, 9));
        b.tells(off.then("another curve", x -> x.setCurve(0, 0, 99)), "board(0, 9)", 1, x -> x.board(0, 9));
        b.tells(Scenes.flat(120).then("never in a tick", x -> {
            x.load(0, 1);
            x.takeOff(0);
        }), "board(0, 9)", 0, x -> x.board(0, 9));
    }

    // ---- all promises

    private static void atMost512Calls(Bounds b) {
        b.sentence(14, "An object is used for at most 512 calls after it has been made");
        BeggingBoards x = FRESH.make();
        for (int call = 1; call <= 510; call++) {
            x.set(3, call % 10);
        }
        b.due("the 511th call", x.set(3, 5), 0);
        b.due("the 512th call", x.count(10), 5);
        BeggingBoards y = FRESH.make();
        for (int call = 1; call <= 510; call++) {
            if (call % 2 == 1) {
                y.take(0);
            } else {
                y.undo();
            }
        }
        b.due("the 511th call", y.take(1), 0);
        b.due("the 512th call", y.count(13), 1);
    }
}
