import java.io.IOException;

/** Boundary cases of the promises 21 to 24: foretell, wouldFail, heaviest, room. */
public final class BoundsOfForecastsTest {
    private static final int INVALID = BeggingBoards.INVALID_ARGUMENT;
    private static final int ILLEGAL = BeggingBoards.ILLEGAL_STATE;
    private static final int FULL = BeggingBoards.CAPACITY_EXCEEDED;
    private static final int NONE = BeggingBoards.NONE;
    private static final Scene FRESH = Scenes.FRESH;

    private BoundsOfForecastsTest() {
    }

    public static void main(String[] args) throws IOException {
        Bounds b = new Bounds("BoundsOfForecastsTest", 21, 22, 23, 24);
        foretellOutside(b);
        foretellOfOneThatIsNotOnTheBelt(b);
        foretellTicks(b);
        foretellKindsAndDegrees(b);
        foretellBeyondTheLastTick(b);
        wouldFailOutside(b);
        wouldFailInside(b);
        speedOfWouldFail(b);
        speedZero(b);
        whetherItCanBeOrNot(b);
        heaviestOutside(b);
        heaviestInside(b);
        heaviestAsWouldFailTells(b);
        roomAtTheGap(b);
        roomOnAShortBelt(b);
        roomHearsPleas(b);
        roomWithThirtyLoaded(b);
        forecastsChangeNothing(b);
        forecastsComeTrue(b);
        b.end();
    }

    // ---- promise 21

    private static void foretellOutside(Bounds b) {
        b.sentence(21, "INVALID_ARGUMENT if there is no such board or what is out of range");
        for (Scene scene : Scenes.ALL) {
            Scene[] here = {scene};
            int last = scene.make().count(1) - 1;
            for (int what = 0; what <= 3; what++) {
                int number = what;
                b.outside(here, "foretell(.., " + what + ")", 0, last, (x, v) -> x.foretell(v, number));
            }
            b.refuses(scene, "foretell(30, 0)", INVALID, x -> x.foretell(30, 0));
            b.outside(here, "foretell(0, ..)", 0, 3, (x, v) -> x.foretell(0, v));
            b.outside(here, "foretell(last, ..)", 0, 3, (x, v) -> x.foretell(last, v));
            b.refuses(scene, "foretell(-1, 4)", INVALID, x -> x.foretell(-1, 4));
        }
    }

    private static void foretellOfOneThatIsNotOnTheBelt(Bounds b) {
        b.sentence(21, "ILLEGAL_STATE if it is not on the belt");
        Scene last = Scenes.evenBelt(8, 1).then("a board in the last cell", x -> {
            x.load(0, 1);
            x.pass(47);
        });
        Scene left = last.then("it has left", x -> x.pass(1));
        Scene off = last.then("it was taken off", x -> x.takeOff(0));
        int[] told = {24, 20, 1, 20};
        for (int what = 0; what <= 3; what++) {
            int number = what;
            b.tells(last, "foretell(0, " + what + ")", told[what], x -> x.foretell(0, number));
            b.refuses(left, "foretell(0, " + what + ")", ILLEGAL, x -> x.foretell(0, number));
            b.refuses(off, "foretell(0, " + what + ")", ILLEGAL, x -> x.foretell(0, number));
        }
        b.sentence(21, "If several error conditions apply");
        b.refuses(left, "foretell(0, 4)", INVALID, x -> x.foretell(0, 4));
        b.refuses(off, "foretell(0, -1)", INVALID, x -> x.foretell(0, -1));
        b.refuses(left, "foretell(1, 0)", INVALID, x -> x.foretell(1, 0));
    }

    private static void foretellTicks(Bounds b) {
        b.sentence(21, "2 for the number of ticks until it leaves");
        int[] ofTheLongest = {48, 24, 16};
        int[] ofTheShortest = {12, 6, 4};
        for (int speed = 1; speed <= 3; speed++) {
            Scene longest = Scenes.evenBelt(8, speed).then("a board", x -> x.load(0, 1));
            b.tells(longest, "foretell(0, 2)", ofTheLongest[speed - 1], x -> x.foretell(0, 2));
            Scene shortest = Scenes.evenBelt(2, speed).then("a board", x -> x.load(0, 1));
            b.tells(shortest, "foretell(0, 2)", ofTheShortest[speed - 1], x -> x.foretell(0, 2));
        }
        BeggingBoards x = Scenes.evenBelt(8, 1).then("a board", y -> y.load(0, 1)).make();
        for (int left = 48; left >= 1; left--) {
            b.due("the ticks that are left", x.foretell(0, 2), left);
            b.due("as many pass", x.pass(1), left == 1 ? 1 : 0);
        }
        Scene thirty = Scenes.thirtyInARow();
        b.tells(thirty, "foretell(0, 2)", 19, y -> y.foretell(0, 2));
        b.tells(thirty, "foretell(29, 2)", 48, y -> y.foretell(29, 2));
    }

    private static void foretellKindsAndDegrees(Bounds b) {
        b.sentence(21, "0 for the set of kinds of its faults then, 1 for its peak");
        Scene none = Scenes.evenBelt(8, 1).then("a curve without faults", x -> {
            x.setCurve(0, 2, 0);
            x.setCurve(0, 4, 20);
            x.load(0, 1);
        });
        int[] ofNone = {0, 20, 48, 20};
        Scene all = Scenes.flat(300).then("a curve of faults alone", x -> {
            x.setCurve(0, 0, 1);
            x.setCurve(0, 1, 298);
            x.setCurve(0, 2, 99);
            x.setCurve(0, 3, 0);
            x.setCurve(0, 4, 300);
            x.setCurve(0, 5, 20);
            x.set(0, 1);
            x.load(0, 1);
        });
        int[] ofAll = {31, 299, 24, 299};
        for (int what = 0; what <= 3; what++) {
            int number = what;
            b.tells(none, "foretell(0, " + what + ")", ofNone[what], x -> x.foretell(0, number));
            b.tells(all, "foretell(0, " + what + ")", ofAll[what], x -> x.foretell(0, number));
        }
    }

    private static void foretellBeyondTheLastTick(Bounds b) {
        b.sentence(21, "Tells how a board on the belt will end, if only ticks pass");
        b.refuses(Scenes.LATE, "pass(1)", FULL, x -> x.pass(1));
        Scene early = FRESH.then("a board after four ticks", x -> {
            x.load(0, 3);
            x.pass(4);
        });
        for (int what = 0; what <= 3; what++) {
            int number = what;
            b.tells(Scenes.LATE, "foretell(0, " + what + ")", early.make().foretell(0, what), x -> x.foretell(0, number));
        }
        b.tells(Scenes.LATE, "wouldFail(0, 3, 0)", early.make().wouldFail(0, 3, 0), x -> x.wouldFail(0, 3, 0));
        b.tells(Scenes.LATE, "heaviest(0)", early.make().heaviest(0), x -> x.heaviest(0));
        b.tells(Scenes.LATE.then("the gap 20", x -> x.set(1, 20)), "room()", 6, BeggingBoards::room);
    }

    // ---- promise 22

    private static void wouldFailOutside(Bounds b) {
        b.sentence(22, "`curve`: 0 to 3");
        b.outside(Scenes.ALL, "wouldFail(.., 1, 0)", 0, 3, (x, v) -> x.wouldFail(v, 1, 0));
        b.sentence(22, "`weight`: 1 to 9");
        b.outside(Scenes.ALL, "wouldFail(0, .., 0)", 1, 9, (x, v) -> x.wouldFail(0, v, 0));
        b.sentence(22, "`speed`: 1 to 3 for the speed then, pleas not being heard; 0 for the speed and the bound as they are");
        b.outside(Scenes.ALL, "wouldFail(0, 1, ..)", 0, 3, (x, v) -> x.wouldFail(0, 1, v));
        b.outside(Scenes.ALL, "wouldFail(3, 9, ..)", 0, 3, (x, v) -> x.wouldFail(3, 9, v));
        b.sentence(22, "INVALID_ARGUMENT if an argument is out of range");
        b.refuses(FRESH, "wouldFail(4, 0, 4)", INVALID, x -> x.wouldFail(4, 0, 4));
    }

    private static void wouldFailInside(Bounds b) {
        b.sentence(22, "`weight`: 1 to 9");
        // 70 degrees in the first tick by the weight 1, 30 by the weight 9.
        Scene scene = Scenes.flat(120).then("the curves 0 and 3 differ", x -> {
            for (int curve = 0; curve <= 3; curve += 3) {
                x.setCurve(curve, 2, 0);
                x.setCurve(curve, 3, 99);
                x.setCurve(curve, 4, 20);
            }
            x.setCurve(0, 0, 49);
            x.setCurve(3, 0, 9);
        });
        b.tells(scene, "wouldFail(0, 1, 1)", 1, x -> x.wouldFail(0, 1, 1));
        b.tells(scene, "wouldFail(0, 2, 1)", 0, x -> x.wouldFail(0, 2, 1));
        b.tells(scene, "wouldFail(0, 9, 1)", 0, x -> x.wouldFail(0, 9, 1));
        b.tells(scene, "wouldFail(3, 1, 1)", 1, x -> x.wouldFail(3, 1, 1));
        b.tells(scene, "wouldFail(3, 9, 1)", 1, x -> x.wouldFail(3, 9, 1));
        b.tells(scene.then("a rise of 10 is allowed", x -> x.setCurve(3, 0, 10)), "wouldFail(3, 9, 1)", 0,
                x -> x.wouldFail(3, 9, 1));
    }

    /** A board has one tick above for each tick on the belt, and two kinds of faults tell how many these are. */
    private static Scene counting(int speed, int fewest) {
        return Scenes.flat(100).then("the speed " + speed + ", at least " + fewest + " ticks", x -> {
            x.setCurve(1, 0, 99);
            x.setCurve(1, 1, 20);
            x.setCurve(1, 2, fewest);
            x.setCurve(1, 3, fewest);
            x.setCurve(1, 4, 20);
            x.set(0, speed);
        });
    }

    private static void speedOfWouldFail(Bounds b) {
        b.sentence(22, "`speed`: 1 to 3 for the speed then, pleas not being heard");
        int[] ticks = {23, 11, 7};
        for (int now = 1; now <= 3; now++) {
            for (int speed = 1; speed <= 3; speed++) {
                int then = speed;
                int due = ticks[speed - 1];
                String call = "wouldFail(1, 1, " + speed + ")";
                b.tells(counting(now, due), call, 0, x -> x.wouldFail(1, 1, then));
                b.tells(counting(now, due + 1), call, 8, x -> x.wouldFail(1, 1, then));
                b.tells(counting(now, due - 1), call, 2, x -> x.wouldFail(1, 1, then));
            }
            int due = ticks[now - 1];
            b.tells(counting(now, due), "wouldFail(1, 1, 0)", 0, x -> x.wouldFail(1, 1, 0));
            b.tells(counting(now, due + 1), "wouldFail(1, 1, 0)", 8, x -> x.wouldFail(1, 1, 0));
            b.tells(counting(now, due - 1), "wouldFail(1, 1, 0)", 2, x -> x.wouldFail(1, 1, 0));
        }
    }

    private static void speedZero(Bounds b) {
        b.sentence(22, "0 for the speed and the bound as they are");
        // It pleads for a faster ride from its third tick on, and is at the cells 1, 2, 3, then 5, then 8, 11, 14, 17, 20, 23.
        Scene most = counting(1, 2).then("the bound 1", x -> x.set(2, 1));
        Scene[] above = {most.then("at least 10", x -> x.setCurve(1, 2, 10)), most.then("at least 11",
                x -> x.setCurve(1, 2, 11))};
        b.tells(above[0], "wouldFail(1, 1, 0)", 2, x -> x.wouldFail(1, 1, 0));
        b.tells(above[1], "wouldFail(1, 1, 0)", 10, x -> x.wouldFail(1, 1, 0));
        b.tells(above[1], "wouldFail(1, 1, 1)", 2, x -> x.wouldFail(1, 1, 1));
        b.tells(above[1].then("the bound 0", x -> x.set(2, 0)), "wouldFail(1, 1, 0)", 2, x -> x.wouldFail(1, 1, 0));
        b.tells(above[1].then("the bound 2", x -> x.set(2, 2)), "wouldFail(1, 1, 0)", 2, x -> x.wouldFail(1, 1, 0));
        b.tells(above[1].then("the bound 2", x -> x.set(2, 2)), "wouldFail(1, 2, 0)", 10, x -> x.wouldFail(1, 2, 0));
    }

    private static void whetherItCanBeOrNot(Bounds b) {
        b.sentence(22, "if it was loaded now (whether it can be or not)");
        Scene inTheGap = counting(1, 23).then("a board at cell 0", x -> x.load(0, 1));
        b.refuses(inTheGap, "load(1, 1)", ILLEGAL, x -> x.load(1, 1));
        b.tells(inTheGap, "wouldFail(1, 1, 0)", 0, x -> x.wouldFail(1, 1, 0));
        b.tells(inTheGap, "wouldFail(1, 1, 2)", 8, x -> x.wouldFail(1, 1, 2));
        Scene thirty = counting(1, 23).then("thirty boards", x -> {
            x.set(1, 1);
            for (int board = 0; board < 30; board++) {
                x.load(0, 9);
                x.pass(1);
            }
        });
        b.refuses(thirty, "load(1, 1)", FULL, x -> x.load(1, 1));
        b.tells(thirty, "wouldFail(1, 1, 0)", 0, x -> x.wouldFail(1, 1, 0));
        b.tells(thirty, "wouldFail(1, 1, 2)", 8, x -> x.wouldFail(1, 1, 2));
        b.tells(thirty.then("all have left", x -> x.pass(24)), "wouldFail(1, 1, 0)", 0, x -> x.wouldFail(1, 1, 0));
        b.sentence(23, "if it was loaded now (whether it can be or not)");
        b.tells(inTheGap, "heaviest(1)", 9, x -> x.heaviest(1));
        b.tells(thirty, "heaviest(1)", 9, x -> x.heaviest(1));
        b.tells(thirty.then("the speed 2", x -> x.set(0, 2)), "heaviest(1)", NONE, x -> x.heaviest(1));
    }

    // ---- promise 23

    private static void heaviestOutside(Bounds b) {
        b.sentence(23, "Returns the weight; INVALID_ARGUMENT if curve is out of range");
        b.outside(Scenes.ALL, "heaviest(..)", 0, 3, BeggingBoards::heaviest);
        b.sentence(23, "NONE is no error, and it is returned only if no error condition applies");
        Scene none = FRESH.then("no board is without a fault", x -> {
            for (int curve = 0; curve < 4; curve++) {
                x.setCurve(curve, 4, 300);
            }
        });
        b.outside(new Scene[] {none}, "heaviest(..)", 0, 3, BeggingBoards::heaviest);
    }

    /** Only the fewest ticks above tell whether a board has a fault: the heavier it is, the later it melts. */
    private static Scene heavy(int fewest) {
        return Scenes.flat(120).then("at least " + fewest + " ticks above 69", x -> {
            for (int curve = 0; curve <= 3; curve += 3) {
                x.setCurve(curve, 0, 99);
                x.setCurve(curve, 1, 69);
                x.setCurve(curve, 2, fewest);
                x.setCurve(curve, 3, 99);
                x.setCurve(curve, 4, 20);
            }
            x.set(0, 1);
        });
    }

    private static void heaviestInside(Bounds b) {
        b.sentence(23, "Finds the greatest weight of a board that would have no fault at the end");
        // The first tick in which it has 70 degrees: the tick 1 for the weight 1, the tick 2 for 2, 3 for 3, ...
        Scene lightest = heavy(23);
        b.tells(lightest, "heaviest(0)", 1, x -> x.heaviest(0));
        b.tells(lightest, "heaviest(3)", 1, x -> x.heaviest(3));
        b.tells(heavy(22), "heaviest(0)", 2, x -> x.heaviest(0));
        b.tells(heavy(0), "heaviest(0)", 9, x -> x.heaviest(0));
        b.tells(heavy(0), "heaviest(3)", 9, x -> x.heaviest(3));
        b.sentence(23, "NONE if there is none");
        b.tells(heavy(24), "heaviest(0)", NONE, x -> x.heaviest(0));
        b.tells(heavy(24), "heaviest(3)", NONE, x -> x.heaviest(3));
        // The lightest one is too steep, so there is a least weight too.
        Scene steep = heavy(22).then("a rise of at most 49", x -> x.setCurve(0, 0, 49));
        b.tells(steep, "heaviest(0)", 2, x -> x.heaviest(0));
        b.tells(steep.then("at least 23 ticks", x -> x.setCurve(0, 2, 23)), "heaviest(0)", NONE, x -> x.heaviest(0));
        // A light board reaches 99 degrees at most; one that had no weight would have 100.
        Scene weightless = Scenes.flat(100).then("the lowest peak 100", x -> {
            x.setCurve(0, 0, 99);
            x.setCurve(0, 2, 0);
            x.setCurve(0, 4, 100);
            x.set(0, 1);
        });
        b.tells(weightless, "heaviest(0)", NONE, x -> x.heaviest(0));
        b.tells(weightless.then("the lowest peak 99", x -> x.setCurve(0, 4, 99)), "heaviest(0)", 1, x -> x.heaviest(0));
    }

    private static void heaviestAsWouldFailTells(Bounds b) {
        b.sentence(23, "as wouldFail() tells it with the speed 0");
        for (Scene scene : Scenes.ALL) {
            for (int curve = 0; curve < 4; curve++) {
                int number = curve;
                int heaviest = NONE;
                for (int weight = 1; weight <= 9; weight++) {
                    heaviest = scene.make().wouldFail(curve, weight, 0) == 0 ? weight : heaviest;
                }
                b.tells(scene, "heaviest(" + curve + ")", heaviest, x -> x.heaviest(number));
            }
        }
    }

    // ---- promise 24

    private static void roomAtTheGap(Bounds b) {
        b.sentence(24, "Returns the number of ticks, 0 if it can be now");
        b.tells(FRESH, "room()", 0, BeggingBoards::room);
        for (int speed = 1; speed <= 3; speed++) {
            Scene loaded = Scenes.evenBelt(8, speed).then("a board at cell 0", x -> x.load(0, 1));
            for (int gap = 1; gap <= 20; gap++) {
                int width = gap;
                int ticks = 0;
                for (int cell = 0; cell < gap; cell += speed) {
                    ticks++;
                }
                b.due("the gap " + gap + " at the speed " + speed,
                        loaded.then("", x -> x.set(1, width)).make().room(), ticks);
            }
        }
        Scene widest = Scenes.evenBelt(8, 1).then("a board at cell 18, the gap 20", x -> {
            x.set(1, 20);
            x.load(0, 1);
            x.pass(18);
        });
        b.tells(widest, "room()", 2, BeggingBoards::room);
        Scene last = widest.then("a tick", x -> x.pass(1));
        b.tells(last, "room()", 1, BeggingBoards::room);
        b.refuses(last, "load(0, 1)", ILLEGAL, x -> x.load(0, 1));
        Scene out = last.then("a tick", x -> x.pass(1));
        b.tells(out, "room()", 0, BeggingBoards::room);
        b.does(out, "load(0, 1)", 1, x -> x.load(0, 1));
        Scene two = Scenes.evenBelt(8, 1).then("boards at the cells 1 and 0", x -> {
            x.load(0, 1);
            x.pass(1);
            x.load(0, 1);
            x.set(1, 5);
        });
        b.tells(two, "the last one counts: room()", 5, BeggingBoards::room);
        b.tells(two.then("it was taken off", x -> x.takeOff(1)), "room()", 4, BeggingBoards::room);
        b.tells(two.then("both were taken off", x -> {
            x.takeOff(0);
            x.takeOff(1);
        }), "room()", 0, BeggingBoards::room);
    }

    private static void roomOnAShortBelt(Bounds b) {
        b.sentence(24, "Tells in how many ticks a board can be loaded, if only ticks pass");
        Scene shortest = Scenes.evenBelt(2, 1).then("the gap 20", x -> {
            x.set(1, 20);
            x.load(0, 1);
        });
        b.tells(shortest, "as it leaves: room()", 12, BeggingBoards::room);
        b.tells(shortest.then("the last cell", x -> x.pass(11)), "room()", 1, BeggingBoards::room);
        b.tells(shortest.then("it has left", x -> x.pass(12)), "room()", 0, BeggingBoards::room);
        b.tells(shortest.then("the speed 3", x -> x.set(0, 3)), "room()", 4, BeggingBoards::room);
    }

    private static void roomHearsPleas(Bounds b) {
        b.sentence(24, "if only ticks pass");
        // It pleads in each of its ticks; from the second tick on the speed is less, or greater, by 1.
        Scene slower = Scenes.flat(300).then("a plea for a slower ride", x -> {
            x.setCurve(0, 0, 1);
            x.set(1, 6);
            x.load(0, 9);
        });
        b.tells(slower, "room() if pleas are not heard", 3, BeggingBoards::room);
        b.tells(slower.then("the bound 9", x -> x.set(2, 9)), "room()", 5, BeggingBoards::room);
        b.tells(slower.then("the bound 10", x -> x.set(2, 10)), "room()", 3, BeggingBoards::room);
        Scene faster = Scenes.flat(100).then("a plea for a faster ride", x -> {
            x.setCurve(0, 0, 99);
            x.setCurve(0, 1, 20);
            x.setCurve(0, 3, 0);
            x.set(1, 11);
            x.load(0, 9);
        });
        b.tells(faster, "room() if pleas are not heard", 6, BeggingBoards::room);
        b.tells(faster.then("the bound 9", x -> x.set(2, 9)), "room()", 4, BeggingBoards::room);
        b.tells(faster.then("the bound 10", x -> x.set(2, 10)), "room()", 6, BeggingBoards::room);
    }

    private static void roomWithThirtyLoaded(Bounds b) {
        b.sentence(24, "(the number of boards loaded is of no matter)");
        b.refuses(Scenes.FULL, "load(0, 1)", FULL, x -> x.load(0, 1));
        b.tells(Scenes.FULL, "room()", 0, BeggingBoards::room);
        b.tells(Scenes.FULL.then("the gap 20", x -> x.set(1, 20)), "room()", 8, BeggingBoards::room);
        b.tells(Scenes.FULL.then("all have left", x -> x.pass(99)), "room()", 0, BeggingBoards::room);
    }

    // ---- all of them

    private static void forecastsChangeNothing(Bounds b) {
        b.sentence(21, "---- what could be, which changes nothing");
        for (Scene scene : Scenes.ALL) {
            String before = scene.told();
            b.holds(scene.name + ", all forecasts", scene.toldAfter(x -> {
                Looking.atPart(x, Looking.FORECASTS);
                return 0;
            }).equals(before));
        }
    }

    private static void forecastsComeTrue(Bounds b) {
        b.sentence(21, "Tells how a board on the belt will end, if only ticks pass");
        Scene[] scenes = {Scenes.BUSY, Scenes.FULL};
        for (Scene scene : scenes) {
            BeggingBoards x = scene.make();
            for (int board = 0; board < x.count(1); board++) {
                if (x.board(board, 2) == 0) {
                    comesTrue(b, scene, board);
                }
            }
        }
    }

    private static void comesTrue(Bounds b, Scene scene, int board) {
        BeggingBoards x = scene.make();
        String name = scene.name + ", board " + board + ", ";
        int kinds = x.foretell(board, 0);
        int peak = x.foretell(board, 1);
        int ticks = x.foretell(board, 2);
        int degrees = x.foretell(board, 3);
        for (int tick = 1; tick < ticks; tick++) {
            x.pass(1);
        }
        b.due(name + "on the belt before", x.board(board, 2), 0);
        x.pass(1);
        b.due(name + "left then", x.board(board, 2), 1);
        b.due(name + "its kinds", x.board(board, 8), kinds);
        b.due(name + "its peak", x.board(board, 6), peak);
        b.due(name + "its degrees", x.board(board, 4), degrees);
    }
}
