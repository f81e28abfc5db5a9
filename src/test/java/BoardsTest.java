/** Promises 5 to 7: load, takeOff, pass, with all that happens in a tick. */
public final class BoardsTest {
    private static final int INVALID = BeggingBoards.INVALID_ARGUMENT;
    private static final int ILLEGAL = BeggingBoards.ILLEGAL_STATE;
    private static final int FULL = BeggingBoards.CAPACITY_EXCEEDED;
    private static final int NONE = BeggingBoards.NONE;
    private static final int LOW = Integer.MIN_VALUE;
    private static final int HIGH = Integer.MAX_VALUE;

    private BoardsTest() {
    }

    public static void main(String[] args) {
        Check check = new Check("BoardsTest");
        load(check);
        loadThirty(check);
        takeOff(check);
        passWrongly(check);
        passTillTheLastTick(check);
        boardsThatLeave(check);
        oneRide(check);
        roundingTowardZero(check);
        zonesCool(check);
        zonesAreNoColderThanTwenty(check);
        warmingComesAfterCooling(check);
        pleasForSlower(check);
        pleasForFaster(check);
        pleasAgainstEachOther(check);
        boundOfZero(check);
        check.end();
    }

    /** A belt on which boards change neither the zones nor the speed. */
    private static BeggingBoards steady() {
        BeggingBoards x = new BeggingBoards();
        x.set(3, 0);
        x.set(2, 0);
        return x;
    }

    private static void load(Check check) {
        BeggingBoards x = new BeggingBoards();
        int[] wrongCurves = {-1, 4, LOW, HIGH};
        int[] wrongWeights = {0, 10, LOW, HIGH};
        for (int i = 0; i < 4; i++) {
            check.due("load on no curve", x.load(wrongCurves[i], 5), INVALID);
            check.due("load of a wrong weight", x.load(0, wrongWeights[i]), INVALID);
        }
        check.due("nothing is loaded by errors", x.count(1) + x.count(14), 0);
        check.due("load", x.load(3, 9), 0);
        check.due("load is an action", x.count(14), 1);
        int[] told = {3, 9, 0, 0, 20, 0, 20, 0, 0, 0, NONE};
        for (int what = 0; what <= 10; what++) {
            check.due("a board that was loaded, " + what, x.board(0, what), told[what]);
        }
        check.due("load behind a board at once", x.load(0, 1), ILLEGAL);
        check.due("a wrong curve comes first", x.load(4, 1), INVALID);
        check.due("a wrong weight comes first", x.load(0, 0), INVALID);
        x.set(2, 0);
        x.pass(1);
        check.due("in cell 2, which is less than the gap", x.load(0, 1), ILLEGAL);
        x.set(1, 2);
        check.due("in cell 2, which is the gap", x.load(0, 1), 1);
        check.due("the new one is in the gap", x.load(0, 1), ILLEGAL);
        x.takeOff(1);
        check.due("one that was taken off is in no cell", x.load(1, 1), 2);
        x.set(1, 20);
        x.pass(9);
        check.due("at cells 20 and 18", x.board(0, 3) * 100 + x.board(2, 3), 2018);
        check.due("one of two is in the gap", x.load(0, 1), ILLEGAL);
        x.pass(1);
        check.due("none is in the gap", x.load(0, 1), 3);
    }

    private static void loadThirty(Check check) {
        BeggingBoards x = steady();
        x.set(1, 1);
        x.set(0, 1);
        for (int board = 0; board < 30; board++) {
            check.due("load number " + board, x.load(board % 4, 1 + board % 9), board);
            if (board < 29) {
                x.pass(1);
            }
        }
        check.due("thirty are loaded", x.count(1), 30);
        check.due("one more, with one in the gap", x.load(0, 1), ILLEGAL);
        x.pass(1);
        String before = Looking.atAll(x);
        check.due("one more", x.load(0, 1), FULL);
        check.due("one more, wrong", x.load(0, 10), INVALID);
        check.holds("one more changes nothing", Looking.atAll(x).equals(before));
        x.takeOff(29);
        x.pass(99);
        check.due("the belt is empty", x.count(2), 0);
        check.due("one more on an empty belt", x.load(0, 1), FULL);
        for (int board = 0; board < 30; board++) {
            check.due("curve of " + board, x.board(board, 0), board % 4);
            check.due("weight of " + board, x.board(board, 1), 1 + board % 9);
        }
        check.due("board 30", x.board(30, 0), INVALID);
        x.undo();
        x.undo();
        check.due("undone, the last one is on the belt", x.board(29, 2), 0);
    }

    private static void takeOff(Check check) {
        BeggingBoards x = steady();
        check.due("takeOff of none", x.takeOff(0), INVALID);
        x.load(0, 1);
        int[] wrong = {-1, 1, 30, LOW, HIGH};
        for (int board : wrong) {
            check.due("takeOff of no board " + board, x.takeOff(board), INVALID);
        }
        x.pass(3);
        x.load(0, 2);
        int states = x.count(14);
        check.due("takeOff at cell 6", x.takeOff(0), 6);
        check.due("takeOff is an action", x.count(14), Math.min(5, states + 1));
        int[] told = {0, 1, 2, NONE, 137, 22, 137, 0, 1, 0, NONE};
        for (int what = 0; what <= 10; what++) {
            check.due("a board that was taken off, " + what, x.board(0, what), told[what]);
        }
        check.due("takeOff again", x.takeOff(0), ILLEGAL);
        x.pass(1);
        check.due("it does not go on", x.board(0, 4), 137);
        check.due("the other does", x.board(1, 3), 2);
        x.pass(11);
        check.due("takeOff of one that has left", x.takeOff(1), ILLEGAL);
        check.due("left or taken off", x.count(3) * 10 + x.count(5), 11);
        BeggingBoards y = new BeggingBoards();
        y.load(0, 1);
        check.due("takeOff at once", y.takeOff(0), 0);
        check.due("its degrees", y.board(0, 4), 20);
    }

    private static void passWrongly(Check check) {
        BeggingBoards x = new BeggingBoards();
        String before = Looking.atAll(x);
        int[] wrong = {0, -1, 100, LOW, HIGH};
        for (int ticks : wrong) {
            check.due("pass " + ticks, x.pass(ticks), INVALID);
        }
        check.holds("pass that fails changes nothing", Looking.atAll(x).equals(before));
        check.due("pass 1", x.pass(1), 0);
        check.due("pass 99", x.pass(99), 0);
        check.due("ticks", x.count(0), 100);
        check.due("pass is an action", x.count(14), 2);
    }

    private static void passTillTheLastTick(Check check) {
        BeggingBoards x = new BeggingBoards();
        for (int i = 0; i < 50; i++) {
            check.due("pass 99", x.pass(99), 0);
        }
        check.due("ticks", x.count(0), 4950);
        String before = Looking.atAll(x);
        check.due("more than 5000 would have passed", x.pass(51), FULL);
        check.due("more than 5000 would have passed", x.pass(99), FULL);
        check.due("a wrong argument comes first", x.pass(100), INVALID);
        check.due("a wrong argument comes first", x.pass(0), INVALID);
        check.holds("nothing changes by it", Looking.atAll(x).equals(before));
        check.due("just 5000", x.pass(50), 0);
        check.due("one more", x.pass(1), FULL);
        check.due("ticks at last", x.count(0), 5000);
        check.due("a board can be loaded", x.load(0, 1), 0);
        check.due("but does not go on", x.pass(1), FULL);
        check.due("its ride can be foretold", x.foretell(0, 2), 12);
        check.due("room can be foretold", x.room(), 2);
        x.undo();
        x.undo();
        check.due("undone, ticks can pass", x.pass(50), 0);
    }

    private static void boardsThatLeave(Check check) {
        BeggingBoards x = steady();
        x.set(0, 1);
        x.set(1, 1);
        x.load(0, 1);
        check.due("to the last cell", x.pass(23), 0);
        check.due("it is there", x.board(0, 3), 23);
        check.due("on the belt", x.board(0, 2), 0);
        check.due("beyond the last cell", x.pass(1), 1);
        check.due("left", x.board(0, 2), 1);
        check.due("in no cell", x.board(0, 3), NONE);
        check.due("at tick", x.board(0, 10), 23);
        check.due("it leaves once", x.pass(1), 0);
        x.load(0, 1);
        x.pass(1);
        x.load(0, 1);
        x.pass(2);
        check.due("two leave", x.pass(22), 2);
        check.due("one after another", x.board(2, 10) - x.board(1, 10), 1);
        x.set(0, 3);
        x.load(0, 1);
        x.pass(7);
        check.due("cell 21", x.board(3, 3), 21);
        check.due("to cell 24, which is none", x.pass(1), 1);
    }

    private static void oneRide(Check check) {
        BeggingBoards x = steady();
        x.load(0, 1);
        // cell, degrees, rise, peak, ticks above, faults, plea
        int[][] ticks = {
            {2, 70, 50, 70, 0, 1, 1}, {4, 115, 45, 115, 0, 1, 1}, {6, 137, 22, 137, 0, 1, 0},
            {8, 158, 21, 158, 0, 1, 0}, {10, 169, 11, 169, 0, 1, 0}, {12, 204, 35, 204, 1, 1, 0},
            {14, 222, 18, 222, 2, 1, 0}, {16, 226, 4, 226, 3, 1, 0}, {18, 228, 2, 228, 4, 1, 0},
            {20, 144, -84, 228, 4, 1, 0}, {22, 102, -42, 228, 4, 1, 0}, {NONE, 102, -42, 228, 4, 1, 0}};
        for (int tick = 0; tick < ticks.length; tick++) {
            check.due("a ride, pass " + tick, x.pass(1), tick == 11 ? 1 : 0);
            for (int what = 3; what <= 9; what++) {
                check.due("a ride, after tick " + tick + ", board 0 " + what, x.board(0, what), ticks[tick][what - 3]);
            }
        }
        check.due("it left at", x.board(0, 10), 11);
        x.pass(5);
        check.due("its degrees stay", x.board(0, 4), 102);
        check.due("its plea is that of its latest tick on the belt", lastPlea(), 1);
        int[] divided = {50, 33, 25, 20, 16, 14, 12, 11, 10};
        for (int weight = 1; weight <= 9; weight++) {
            BeggingBoards y = steady();
            y.load(0, weight);
            y.pass(1);
            check.due("the rise of the weight " + weight, y.board(0, 5), divided[weight - 1]);
        }
    }

    private static int lastPlea() {
        BeggingBoards x = steady();
        for (int zone = 0; zone < 6; zone++) {
            x.setZone(zone, 2, zone == 5 ? 300 : 60, 20);
        }
        x.set(0, 3);
        x.load(0, 1);
        x.pass(3);
        // Cell 9 is in zone 4, cell 11 in zone 5.
        x.set(0, 2);
        x.pass(1);
        x.pass(1);
        return x.board(0, 2) == 1 ? x.board(0, 9) : -1;
    }

    private static void roundingTowardZero(Check check) {
        BeggingBoards x = steady();
        x.setZone(0, 4, 100, 5);
        x.setZone(1, 4, 51, 5);
        x.load(0, 1);
        x.pass(2);
        check.due("60 degrees in a zone of 51", x.board(0, 5), -4);
        check.due("56 then", x.board(0, 4), 56);
        check.due("the peak stays", x.board(0, 6), 60);
        x.pass(1);
        check.due("56 degrees in a zone of 51", x.board(0, 4), 54);
    }

    private static void zonesCool(Check check) {
        BeggingBoards x = new BeggingBoards();
        x.setZone(0, 4, 120, 1);
        x.set(0, 1);
        x.set(1, 1);
        x.set(2, 0);
        x.set(3, 9);
        x.load(0, 2);
        x.pass(1);
        check.due("120, less 18 / 5, and 1", x.zone(0, 3), 118);
        x.load(0, 3);
        x.pass(1);
        check.due("118, less 45 / 5, and 1", x.zone(0, 3), 110);
        check.due("the other zones stay", x.zone(1, 3), 160);
        x.pass(1);
        check.due("both are there still", x.zone(0, 3), 102);
        x.pass(1);
        check.due("102, less 27 / 5, and 1", x.zone(0, 3), 98);
        check.due("one cools zone 1 as it comes: 160, less 3, and 5", x.zone(1, 3), 160);
        x.takeOff(1);
        x.pass(1);
        check.due("one taken off cools no more", x.zone(0, 3), 99);
        x.pass(20);
        check.due("up by the power", x.zone(0, 3), 119);
        x.pass(9);
        check.due("up to the target", x.zone(0, 3), 120);
        BeggingBoards y = new BeggingBoards();
        y.setZone(0, 4, 120, 20);
        y.set(3, 9);
        y.load(0, 9);
        y.pass(1);
        check.due("120, less 16, not above the target", y.zone(0, 3), 120);
        BeggingBoards z = new BeggingBoards();
        z.setZone(0, 4, 120, 1);
        z.set(3, 1);
        z.load(0, 9);
        z.pass(1);
        check.due("9 / 5 is 1", z.zone(0, 3), 120);
    }

    private static void zonesAreNoColderThanTwenty(Check check) {
        BeggingBoards x = new BeggingBoards();
        x.setZone(0, 4, 30, 3);
        x.setZone(1, 4, 20, 20);
        x.set(3, 9);
        x.load(0, 9);
        x.pass(1);
        check.due("30, less 16 but 20, and 3", x.zone(0, 3), 23);
        x.pass(1);
        check.due("20 stays 20", x.zone(1, 3), 20);
    }

    private static void warmingComesAfterCooling(Check check) {
        BeggingBoards x = new BeggingBoards();
        x.setZone(0, 4, 120, 1);
        x.set(3, 9);
        x.load(0, 9);
        x.pass(1);
        check.due("the warmth then", x.zone(0, 3), 105);
        check.due("85 / 10", x.board(0, 5), 8);
        x.pass(1);
        check.due("zone 0 is left", x.zone(0, 3), 106);
        check.due("zone 1: 160, less 16, and 5", x.zone(1, 3), 149);
        check.due("121 / 10", x.board(0, 5), 12);
    }

    private static void pleasForSlower(Check check) {
        for (int weight = 5; weight <= 7; weight++) {
            BeggingBoards x = new BeggingBoards();
            x.set(3, 0);
            x.setCurve(0, 0, 1);
            x.load(0, weight);
            x.pass(1);
            check.due("a plea", x.board(0, 9), 1);
            check.due("the weight " + weight + " against the bound 6", x.count(7), weight < 6 ? 2 : 1);
            check.due("how often", x.count(11), weight < 6 ? 0 : 1);
            check.due("not greater", x.count(12), 0);
            check.due("it went on by the old speed", x.board(0, 3), 2);
            x.pass(1);
            check.due("then by the new one", x.board(0, 3), weight < 6 ? 4 : 3);
            check.due("not less than 1", x.count(7), weight < 6 ? 2 : 1);
            check.due("which does not count", x.count(11), weight < 6 ? 0 : 1);
        }
        BeggingBoards y = new BeggingBoards();
        y.set(3, 0);
        y.set(0, 3);
        y.set(2, 1);
        y.setCurve(0, 0, 50);
        y.load(0, 1);
        y.pass(1);
        check.due("a rise of 50 is not greater than 50", y.board(0, 9) + y.board(0, 8), 0);
        y.takeOff(0);
        y.setCurve(0, 0, 49);
        y.load(0, 1);
        y.pass(1);
        check.due("but than 49", y.board(1, 9) * 10 + y.board(1, 8), 11);
        check.due("3 becomes 2", y.count(7), 2);
    }

    private static void pleasForFaster(Check check) {
        BeggingBoards x = new BeggingBoards();
        x.set(3, 0);
        x.set(0, 1);
        x.setCurve(1, 0, 99);
        x.setCurve(1, 1, 20);
        x.setCurve(1, 3, 1);
        x.load(1, 6);
        x.pass(1);
        check.due("one tick above is not more than one", x.board(0, 7) * 100 + x.board(0, 9) * 10 + x.count(7), 101);
        x.pass(1);
        check.due("two are", x.board(0, 7) * 100 + x.board(0, 9) * 10 + x.count(7), 222);
        x.pass(1);
        check.due("greater again", x.count(7), 3);
        x.pass(1);
        check.due("but at most 3", x.count(7), 3);
        check.due("how often", x.count(12), 2);
        check.due("not less", x.count(11), 0);
        BeggingBoards y = new BeggingBoards();
        y.set(3, 0);
        y.setCurve(1, 0, 99);
        y.setCurve(1, 1, 20);
        y.setCurve(1, 3, 0);
        y.load(1, 5);
        y.pass(1);
        check.due("the weight 5 is less than the bound", y.board(0, 9) * 10 + y.count(7), 22);
        y.set(2, 5);
        y.pass(1);
        check.due("the bound 5", y.count(7), 3);
    }

    private static void pleasAgainstEachOther(Check check) {
        BeggingBoards x = new BeggingBoards();
        x.set(3, 0);
        x.set(1, 1);
        x.setCurve(0, 0, 1);
        x.setCurve(1, 0, 99);
        x.setCurve(1, 1, 20);
        x.setCurve(1, 3, 0);
        x.load(1, 4);
        x.pass(1);
        x.load(0, 9);
        x.pass(1);
        check.due("one pleads for faster, one for slower", x.board(0, 9) * 10 + x.board(1, 9), 21);
        check.due("9 less 4 is less than 6", x.count(7), 2);
        x.set(2, 5);
        x.pass(1);
        check.due("but not than 5", x.count(7), 1);
        check.due("slower", x.count(11) * 10 + x.count(12), 10);
        BeggingBoards y = new BeggingBoards();
        y.set(3, 0);
        y.set(2, 1);
        y.setCurve(0, 0, 1);
        y.setCurve(0, 1, 20);
        y.setCurve(0, 3, 0);
        y.load(0, 9);
        y.pass(1);
        check.due("one who could plead for both pleads for slower", y.board(0, 9), 1);
        check.due("and is heard", y.count(7), 1);
        check.due("and has both faults", y.board(0, 8), 3);
        BeggingBoards z = new BeggingBoards();
        z.set(3, 0);
        z.set(2, 1);
        z.setCurve(0, 0, 1);
        z.load(0, 9);
        z.takeOff(0);
        z.pass(1);
        check.due("one that is not on the belt is not heard", z.count(7), 2);
    }

    private static void boundOfZero(Check check) {
        BeggingBoards x = steady();
        x.setCurve(0, 0, 1);
        x.load(0, 9);
        x.pass(1);
        check.due("it pleads", x.board(0, 9), 1);
        check.due("it is not heard", x.count(7) * 10 + x.count(11), 20);
        check.due("it has the fault", x.board(0, 8), 1);
        BeggingBoards y = steady();
        y.pass(1);
        check.due("an empty belt with the bound 0", y.count(7), 2);
        y.set(2, 1);
        y.pass(3);
        check.due("an empty belt with the bound 1", y.count(7), 2);
    }
}
