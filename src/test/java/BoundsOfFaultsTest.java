import java.io.IOException;

/** Boundary cases of the faults, which board, fault, worstCell and faultCells tell (promises 17 to 20). */
public final class BoundsOfFaultsTest {
    private static final int INVALID = BeggingBoards.INVALID_ARGUMENT;
    private static final int NONE = BeggingBoards.NONE;
    private static final int STEEPEST = 0;
    private static final int MELTING = 1;
    private static final int FEWEST = 2;
    private static final int MOST = 3;
    private static final int LOWEST_PEAK = 4;
    private static final int HIGHEST_PEAK = 5;
    private static final Scene FRESH = Scenes.FRESH;

    private BoundsOfFaultsTest() {
    }

    public static void main(String[] args) throws IOException {
        Bounds b = new Bounds("BoundsOfFaultsTest", 17, 18, 19, 20);
        tooSteep(b);
        tooLongAbove(b);
        tooHot(b);
        tooShortAbove(b);
        tooCool(b);
        judgedOnlyWhenItLeaves(b);
        thoseTakenOffAreNotJudged(b);
        lookedAtInTicksAlone(b);
        byTheCurveAsItIsThen(b);
        firstTimeOnly(b);
        cellsAndTicks(b);
        lengthOfTheBelt(b);
        faultOutside(b);
        faultInside(b);
        worstCellOutside(b);
        worstCellInside(b);
        smallestOfSeveral(b);
        allInOneCell(b);
        faultCells(b);
        b.end();
    }

    /** A light board at the speed 1, with no fault by its curve but by what is changed. */
    private static Scene mildRide(int target, int what, int value) {
        return Scenes.flat(target).then("the curve's number " + what + " is " + value, x -> {
            x.setCurve(2, STEEPEST, 99);
            x.setCurve(2, FEWEST, 0);
            x.setCurve(2, MOST, 99);
            x.setCurve(2, LOWEST_PEAK, 20);
            x.setCurve(2, HIGHEST_PEAK, 300);
            x.setCurve(2, what, value);
            x.set(0, 1);
            x.set(1, 1);
            x.load(2, 1);
        });
    }

    private static void kinds(Bounds b, Scene scene, int ticks, int kinds) {
        BeggingBoards x = scene.make();
        x.pass(ticks);
        b.due(scene.name + ", " + ticks + " ticks, the kinds", x.board(0, 8), kinds);
        for (int kind = 0; kind < 5; kind++) {
            boolean has = (kinds >> kind & 1) == 1;
            b.holds("the kind " + kind + " is told", (x.fault(0, kind, 0) != NONE) == has
                    && (x.fault(0, kind, 1) != NONE) == has && x.worstCell(kind, 1) == (has ? 1 : 0));
        }
    }

    private static void tooSteep(Bounds b) {
        b.sentence(17, "of the kind 0 as soon as its rise is greater than the steepest one");
        kinds(b, mildRide(40, STEEPEST, 9), 1, 1);
        kinds(b, mildRide(40, STEEPEST, 10), 1, 0);
        kinds(b, mildRide(40, STEEPEST, 11), 1, 0);
        kinds(b, mildRide(22, STEEPEST, 1), 1, 0);
        kinds(b, mildRide(24, STEEPEST, 1), 1, 1);
        kinds(b, mildRide(218, STEEPEST, 99), 1, 0);
        kinds(b, mildRide(220, STEEPEST, 99), 1, 1);
    }

    private static void tooLongAbove(Bounds b) {
        b.sentence(17, "of the kind 1 as soon as its ticks above are more than the most");
        Scene above = mildRide(120, MELTING, 20);
        for (int most = 0; most <= 3; most++) {
            int number = most;
            Scene scene = above.then("at most " + most, x -> x.setCurve(2, MOST, number));
            if (most > 0) {
                kinds(b, scene, most, 0);
            }
            kinds(b, scene, most + 1, 2);
        }
        kinds(b, mildRide(20, MOST, 0), 24, 0);
        Scene longest = above.then("at most 22", x -> x.setCurve(2, MOST, 22));
        kinds(b, longest, 22, 0);
        kinds(b, longest, 23, 2);
        kinds(b, above.then("at most 23, and it leaves", x -> x.setCurve(2, MOST, 23)), 24, 0);
    }

    private static void tooHot(Bounds b) {
        b.sentence(17, "of the kind 2 as soon as its degrees are above the highest peak");
        // 70 degrees after the first tick.
        kinds(b, mildRide(120, HIGHEST_PEAK, 69), 1, 4);
        kinds(b, mildRide(120, HIGHEST_PEAK, 70), 1, 0);
        kinds(b, mildRide(120, HIGHEST_PEAK, 70), 2, 4);
        kinds(b, mildRide(20, HIGHEST_PEAK, 20), 24, 0);
        kinds(b, mildRide(22, HIGHEST_PEAK, 20), 1, 4);
        Scene hot = mildRide(300, HIGHEST_PEAK, 299).then("slowly", x -> x.set(2, 0));
        b.due("the greatest degrees", hot.then("", x -> x.pass(23)).make().board(0, 6), 299);
        b.due("299 is not above 299", hot.then("", x -> x.pass(23)).make().board(0, 8) & 4, 0);
        Scene less = hot.then("298", x -> x.setCurve(2, HIGHEST_PEAK, 298));
        b.due("but above 298", less.then("", x -> x.pass(23)).make().board(0, 8) & 4, 4);
    }

    private static void tooShortAbove(Bounds b) {
        b.sentence(17, "when it has left, of the kind 3 if its ticks above are less than the fewest");
        kinds(b, mildRide(20, FEWEST, 0), 24, 0);
        kinds(b, mildRide(20, FEWEST, 1), 24, 8);
        // 23 ticks on the belt, all of them above 20 degrees.
        Scene above = mildRide(120, MELTING, 20);
        kinds(b, above.then("at least 22", x -> x.setCurve(2, FEWEST, 22)), 24, 0);
        kinds(b, above.then("at least 23", x -> x.setCurve(2, FEWEST, 23)), 24, 0);
        kinds(b, above.then("at least 24", x -> x.setCurve(2, FEWEST, 24)), 24, 8);
        kinds(b, above.then("at least 99", x -> x.setCurve(2, FEWEST, 99)), 24, 8);
    }

    private static void tooCool(Bounds b) {
        b.sentence(17, "and of the kind 4 if its peak is below the lowest one");
        kinds(b, mildRide(20, LOWEST_PEAK, 20), 24, 0);
        kinds(b, mildRide(20, LOWEST_PEAK, 21), 24, 16);
        // A belt at 120 warms a light board up to 119.
        kinds(b, mildRide(120, LOWEST_PEAK, 118), 24, 0);
        kinds(b, mildRide(120, LOWEST_PEAK, 119), 24, 0);
        kinds(b, mildRide(120, LOWEST_PEAK, 120), 24, 16);
        kinds(b, mildRide(120, LOWEST_PEAK, 300), 24, 16);
    }

    private static void judgedOnlyWhenItLeaves(Bounds b) {
        b.sentence(17, "when it has left, of the kind 3");
        Scene both = mildRide(20, LOWEST_PEAK, 300).then("at least 99", x -> x.setCurve(2, FEWEST, 99));
        kinds(b, both, 1, 0);
        kinds(b, both, 23, 0);
        kinds(b, both, 24, 24);
        kinds(b, both, 25, 24);
    }

    private static void thoseTakenOffAreNotJudged(Bounds b) {
        b.sentence(17, "when it has left, of the kind 3");
        Scene both = mildRide(20, LOWEST_PEAK, 300).then("at least 99, taken off in the last cell", x -> {
            x.setCurve(2, FEWEST, 99);
            x.pass(23);
            x.takeOff(0);
        });
        b.due("at once", both.make().board(0, 8), 0);
        kinds(b, both, 1, 0);
        kinds(b, both, 99, 0);
    }

    private static void lookedAtInTicksAlone(Bounds b) {
        b.sentence(17, "All this is looked at in ticks alone, by the curve as it is then");
        Scene warm = mildRide(120, STEEPEST, 99).then("a tick", x -> x.pass(1));
        Scene strict = warm.then("a strict curve", BoundsOfFaultsTest::makeStrict);
        b.due("no fault by setCurve", strict.make().board(0, 8), 0);
        b.due("no plea by setCurve", strict.make().board(0, 9), 0);
        // In the second tick it has 95 degrees by a rise of 25, and its first tick above.
        kinds(b, strict, 1, 7);
        kinds(b, strict.then("undone", BoundsOfFaultsTest::undoAll), 1, 0);
        Scene gone = mildRide(20, STEEPEST, 99).then("it has left", x -> x.pass(24));
        Scene after = gone.then("a strict curve", BoundsOfFaultsTest::makeStrict);
        b.due("no fault of one that has left", after.make().board(0, 8), 0);
        kinds(b, after, 9, 0);
    }

    private static void makeStrict(BeggingBoards x) {
        x.setCurve(2, STEEPEST, 24);
        x.setCurve(2, MELTING, 94);
        x.setCurve(2, MOST, 0);
        x.setCurve(2, HIGHEST_PEAK, 94);
        x.setCurve(2, FEWEST, 99);
    }

    private static void undoAll(BeggingBoards x) {
        for (int i = 0; i < 5; i++) {
            x.undo();
        }
    }

    private static void byTheCurveAsItIsThen(Bounds b) {
        b.sentence(17, "All this is looked at in ticks alone, by the curve as it is then");
        // At the last cell; what setCurve tells then is what counts as it leaves.
        Scene last = mildRide(20, FEWEST, 0).then("the last cell", x -> x.pass(23));
        kinds(b, last, 1, 0);
        kinds(b, last.then("the fewest 1", x -> x.setCurve(2, FEWEST, 1)), 1, 8);
        kinds(b, last.then("the lowest peak 21", x -> x.setCurve(2, LOWEST_PEAK, 21)), 1, 16);
        kinds(b, last.then("another curve", x -> x.setCurve(1, LOWEST_PEAK, 300)), 1, 0);
        Scene wrong = mildRide(20, LOWEST_PEAK, 300).then("the last cell", x -> x.pass(23));
        kinds(b, wrong, 1, 16);
        kinds(b, wrong.then("the lowest peak 20", x -> x.setCurve(2, LOWEST_PEAK, 20)), 1, 0);
    }

    private static void firstTimeOnly(Bounds b) {
        b.sentence(18, "For each kind it is kept in which cell the board was then for the first time");
        Scene scene = mildRide(120, STEEPEST, 12).then("three ticks before", x -> {
            x.takeOff(0);
            x.pass(3);
            x.load(2, 1);
        });
        // Rises of 50, 25, 12: too steep in two ticks.
        for (int ticks = 1; ticks <= 3; ticks++) {
            BeggingBoards x = scene.make();
            x.pass(ticks);
            b.due("the cell after " + ticks + " ticks", x.fault(1, 0, 0), 1);
            b.due("the tick after " + ticks + " ticks", x.fault(1, 0, 1), 3);
        }
        BeggingBoards again = scene.make();
        again.setCurve(2, STEEPEST, 24);
        again.pass(2);
        again.setCurve(2, STEEPEST, 11);
        again.pass(1);
        b.due("a fault that comes again is kept from the first time", again.fault(1, 0, 0) * 10 + again.fault(1, 0, 1), 13);
        BeggingBoards other = scene.make();
        other.setCurve(2, HIGHEST_PEAK, 95);
        other.pass(3);
        b.due("each kind has its own cell", other.fault(1, 2, 0), 3);
        b.due("each kind has its own tick", other.fault(1, 2, 1), 5);
    }

    private static void cellsAndTicks(Bounds b) {
        b.sentence(18, "and at which tick (the number of ticks that had passed before this tick)");
        for (int speed = 1; speed <= 3; speed++) {
            int cells = speed;
            BeggingBoards x = mildRide(120, STEEPEST, 1).then("the speed", y -> y.set(0, cells)).make();
            x.pass(1);
            b.due("the smallest tick", x.fault(0, 0, 1), 0);
            b.due("its cell at the speed " + speed, x.fault(0, 0, 0), speed);
        }
        BeggingBoards late = FRESH.then("4999 ticks", x -> {
            for (int i = 0; i < 50; i++) {
                x.pass(99);
            }
            x.pass(49);
            x.setCurve(0, STEEPEST, 1);
            x.load(0, 1);
        }).make();
        late.pass(1);
        b.due("the greatest tick", late.fault(0, 0, 1), 4999);
        b.sentence(18, "it is kept in which cell the board was then");
        BeggingBoards z = hotLastCell().make();
        b.due("a fault in the greatest cell", z.fault(0, 0, 0), 47);
        b.due("and the worst one", z.worstCell(0, 0), 47);
        b.due("one cell", z.faultCells(), 1);
    }

    /** The rise is too steep in the last cell of the longest belt, and nowhere before. */
    private static Scene hotLastCell() {
        return Scenes.evenBelt(8, 1).then("a board in the last cell, where it is warmer", x -> {
            x.setZone(5, 8, 60, 5);
            x.setCurve(0, STEEPEST, 99);
            x.load(0, 9);
            x.pass(46);
            x.setCurve(0, STEEPEST, 1);
            x.pass(1);
        });
    }

    private static void lengthOfTheBelt(Bounds b) {
        b.sentence(18, "for one that has left the cell is the length of the belt");
        int[] lengths = {2, 4, 8};
        for (int length : lengths) {
            for (int speed = 1; speed <= 3; speed++) {
                BeggingBoards x = Scenes.evenBelt(length, speed).make();
                x.load(0, 1);
                x.pass(50);
                String name = "the length " + length + ", the speed " + speed + ", ";
                int ticks = (6 * length - 1) / speed;
                for (int kind = 3; kind <= 4; kind++) {
                    b.due(name + "the cell of the kind " + kind, x.fault(0, kind, 0), 6 * length);
                    b.due(name + "the tick of the kind " + kind, x.fault(0, kind, 1), ticks);
                    b.due(name + "the worst cell of the kind " + kind, x.worstCell(kind, 0), 6 * length);
                }
                b.due(name + "it left at", x.board(0, 10), ticks);
                x.setZone(0, 3, 20, 5);
                b.due(name + "it stays if the belt changes", x.fault(0, 3, 0), 6 * length);
            }
        }
    }

    // ---- promise 18

    private static void faultOutside(Bounds b) {
        b.sentence(18, "`board`: a board");
        for (Scene scene : Scenes.ALL) {
            b.outside(new Scene[] {scene}, "fault(.., 0, 0)", 0, scene.make().count(1) - 1, (x, v) -> x.fault(v, 0, 0));
            b.refuses(scene, "fault(30, 0, 0)", INVALID, x -> x.fault(30, 0, 0));
        }
        b.sentence(18, "`kind`: 0 to 4");
        b.outside(Scenes.ALL, "fault(0, .., 0)", 0, 4, (x, v) -> x.fault(0, v, 0));
        b.outside(Scenes.ALL, "fault(0, .., 1)", 0, 4, (x, v) -> x.fault(0, v, 1));
        b.sentence(18, "`what`: 0 for the cell, 1 for the tick");
        b.outside(Scenes.ALL, "fault(0, 0, ..)", 0, 1, (x, v) -> x.fault(0, 0, v));
        b.outside(Scenes.ALL, "fault(0, 4, ..)", 0, 1, (x, v) -> x.fault(0, 4, v));
        b.sentence(18, "NONE is no error, and it is returned only if no error condition applies");
        Scene loaded = FRESH.then("a board", x -> x.load(0, 1));
        b.refuses(loaded, "fault(1, 0, 0)", INVALID, x -> x.fault(1, 0, 0));
        b.refuses(loaded, "fault(0, 5, 0)", INVALID, x -> x.fault(0, 5, 0));
        b.refuses(loaded, "fault(0, 0, 2)", INVALID, x -> x.fault(0, 0, 2));
        b.refuses(loaded, "fault(1, 5, 2)", INVALID, x -> x.fault(1, 5, 2));
    }

    private static void faultInside(Bounds b) {
        b.sentence(18, "NONE if it has no such fault");
        Scene loaded = FRESH.then("a board", x -> x.load(0, 1));
        for (int kind = 0; kind <= 4; kind++) {
            int number = kind;
            b.tells(loaded, "fault(0, " + kind + ", 0)", NONE, x -> x.fault(0, number, 0));
            b.tells(loaded, "fault(0, " + kind + ", 1)", NONE, x -> x.fault(0, number, 1));
        }
        Scene thirty = mildRide(120, STEEPEST, 1).then("thirty boards, each of them too steep", x -> {
            x.pass(1);
            for (int board = 1; board < 30; board++) {
                x.load(2, 1);
                x.pass(1);
            }
        });
        b.tells(thirty, "fault(0, 0, 0)", 1, x -> x.fault(0, 0, 0));
        b.tells(thirty, "fault(0, 0, 1)", 0, x -> x.fault(0, 0, 1));
        b.tells(thirty, "fault(29, 0, 0)", 1, x -> x.fault(29, 0, 0));
        b.tells(thirty, "fault(29, 0, 1)", 29, x -> x.fault(29, 0, 1));
        b.tells(thirty, "fault(29, 4, 1)", NONE, x -> x.fault(29, 4, 1));
    }

    // ---- promise 19

    private static void worstCellOutside(Bounds b) {
        b.sentence(19, "`kind`: 0 to 4");
        b.outside(Scenes.ALL, "worstCell(.., 0)", 0, 4, (x, v) -> x.worstCell(v, 0));
        b.outside(Scenes.ALL, "worstCell(.., 1)", 0, 4, (x, v) -> x.worstCell(v, 1));
        b.sentence(19, "`what`: 0 for the cell, 1 for the number of boards");
        b.outside(Scenes.ALL, "worstCell(0, ..)", 0, 1, (x, v) -> x.worstCell(0, v));
        b.outside(Scenes.ALL, "worstCell(4, ..)", 0, 1, (x, v) -> x.worstCell(4, v));
        b.sentence(19, "INVALID_ARGUMENT if an argument is out of range");
        b.refuses(FRESH, "worstCell(5, 2)", INVALID, x -> x.worstCell(5, 2));
    }

    private static void worstCellInside(Bounds b) {
        b.sentence(19, "NONE if there is no such fault (0 for 1)");
        Scene loaded = FRESH.then("a board without a fault", x -> x.load(0, 1));
        Scene[] without = {FRESH, loaded};
        for (Scene scene : without) {
            for (int kind = 0; kind <= 4; kind++) {
                int number = kind;
                b.tells(scene, "worstCell(" + kind + ", 0)", NONE, x -> x.worstCell(number, 0));
                b.tells(scene, "worstCell(" + kind + ", 1)", 0, x -> x.worstCell(number, 1));
            }
        }
        Scene steep = mildRide(40, STEEPEST, 9).then("a tick", x -> x.pass(1));
        b.tells(steep, "worstCell(0, 0)", 1, x -> x.worstCell(0, 0));
        b.tells(steep, "worstCell(0, 1)", 1, x -> x.worstCell(0, 1));
        b.tells(steep, "worstCell(1, 0)", NONE, x -> x.worstCell(1, 0));
        b.tells(steep, "worstCell(1, 1)", 0, x -> x.worstCell(1, 1));
    }

    /** Each board is too steep in its first tick, in the cell that its speed tells. */
    private static Scene steepAt(int... speeds) {
        return mildRide(120, STEEPEST, 1).then("too steep in the cells of the speeds", x -> {
            x.takeOff(0);
            for (int speed : speeds) {
                x.set(0, speed);
                x.load(2, 1);
                x.pass(1);
            }
        });
    }

    private static void worstIs(Bounds b, Scene scene, int cell, int boards, int cells) {
        b.tells(scene, "worstCell(0, 0)", cell, x -> x.worstCell(0, 0));
        b.tells(scene, "worstCell(0, 1)", boards, x -> x.worstCell(0, 1));
        b.tells(scene, "faultCells()", cells, BeggingBoards::faultCells);
    }

    private static void smallestOfSeveral(Bounds b) {
        b.sentence(19, "Finds the cell in which most boards had a fault of a kind first, of several the smallest");
        worstIs(b, steepAt(3), 3, 1, 1);
        worstIs(b, steepAt(3, 1), 1, 1, 2);
        worstIs(b, steepAt(1, 3), 1, 1, 2);
        worstIs(b, steepAt(3, 2), 2, 1, 2);
        worstIs(b, steepAt(3, 1, 3), 3, 2, 2);
        worstIs(b, steepAt(3, 1, 2), 1, 1, 3);
        worstIs(b, steepAt(3, 1, 2, 3, 2), 2, 2, 3);
        worstIs(b, steepAt(3, 1, 2, 3, 2, 1), 1, 2, 3);
        worstIs(b, steepAt(3, 3, 1).then("one of the worst was taken off", x -> x.takeOff(1)), 3, 2, 2);
        worstIs(b, steepAt(3, 3, 1).then("all have left", x -> x.pass(30)), 3, 2, 2);
    }

    private static void allInOneCell(Bounds b) {
        b.sentence(19, "1 for the number of boards");
        int[] speeds = new int[29];
        java.util.Arrays.fill(speeds, 2);
        worstIs(b, steepAt(speeds), 2, 29, 1);
        Scene thirty = Scenes.flat(20).then("thirty boards that leave", x -> {
            x.set(1, 1);
            for (int board = 0; board < 30; board++) {
                x.load(0, 1);
                x.pass(1);
            }
            x.pass(30);
        });
        b.tells(thirty, "worstCell(3, 0)", 24, x -> x.worstCell(3, 0));
        b.tells(thirty, "worstCell(3, 1)", 30, x -> x.worstCell(3, 1));
        b.tells(thirty, "worstCell(4, 1)", 30, x -> x.worstCell(4, 1));
        b.tells(thirty, "faultCells()", 1, BeggingBoards::faultCells);
    }

    // ---- promise 20

    private static void faultCells(Bounds b) {
        b.sentence(20, "Counts the cells in which some board had a fault of any kind first");
        b.tells(FRESH, "faultCells()", 0, BeggingBoards::faultCells);
        b.tells(FRESH.then("a board without a fault", x -> x.load(0, 1)), "faultCells()", 0, BeggingBoards::faultCells);
        b.sentence(20, "Returns the number of different cells");
        // 70 degrees in cell 1: three kinds at once.
        Scene three = mildRide(120, STEEPEST, 1).then("three kinds in one cell", x -> {
            x.setCurve(2, MELTING, 20);
            x.setCurve(2, MOST, 0);
            x.setCurve(2, HIGHEST_PEAK, 69);
            x.pass(1);
        });
        b.due("the kinds", three.make().board(0, 8), 7);
        b.tells(three, "faultCells()", 1, BeggingBoards::faultCells);
        Scene two = mildRide(120, STEEPEST, 1).then("two kinds in two cells", x -> {
            x.setCurve(2, HIGHEST_PEAK, 94);
            x.pass(2);
        });
        b.due("the kinds", two.make().board(0, 8), 5);
        b.tells(two, "faultCells()", 2, BeggingBoards::faultCells);
        Scene many = mildRide(60, MELTING, 20).then("each board is too long above in another cell", x -> {
            x.takeOff(0);
            for (int board = 1; board <= 20; board++) {
                x.setCurve(2, MOST, board - 1);
                x.load(2, 1);
                x.pass(board);
                x.takeOff(board);
            }
        });
        b.due("the last of them", many.make().fault(20, 1, 0), 20);
        b.tells(many, "faultCells()", 20, BeggingBoards::faultCells);
    }
}
