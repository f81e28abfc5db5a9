/** Promises 21 to 24: foretell, wouldFail, heaviest, room. */
public final class ForecastTest {
    private static final int INVALID = BeggingBoards.INVALID_ARGUMENT;
    private static final int ILLEGAL = BeggingBoards.ILLEGAL_STATE;
    private static final int NONE = BeggingBoards.NONE;
    private static final int LOW = Integer.MIN_VALUE;
    private static final int HIGH = Integer.MAX_VALUE;

    private ForecastTest() {
    }

    public static void main(String[] args) {
        Check check = new Check("ForecastTest");
        foretellWrongly(check);
        foretell(check);
        foretellHearsPleas(check);
        wouldFailWrongly(check);
        wouldFail(check);
        wouldFailHearsPleasAtSpeedZeroAlone(check);
        whetherItCanBeLoadedOrNot(check);
        heaviest(check);
        room(check);
        nothingChanges(check);
        asThingsTurnOut(check);
        check.end();
    }

    private static BeggingBoards steady() {
        BeggingBoards x = new BeggingBoards();
        x.set(3, 0);
        x.set(2, 0);
        return x;
    }

    private static void foretellWrongly(Check check) {
        BeggingBoards x = new BeggingBoards();
        check.due("foretell of none", x.foretell(0, 0), INVALID);
        x.load(0, 1);
        int[] wrongBoards = {-1, 1, 30, LOW, HIGH};
        for (int board : wrongBoards) {
            check.due("foretell of " + board, x.foretell(board, 0), INVALID);
        }
        int[] wrongWhats = {-1, 4, LOW, HIGH};
        for (int what : wrongWhats) {
            check.due("foretell " + what, x.foretell(0, what), INVALID);
        }
        x.takeOff(0);
        check.due("foretell of one taken off", x.foretell(0, 0), ILLEGAL);
        check.due("a wrong what comes first", x.foretell(0, 4), INVALID);
        x.load(0, 1);
        x.pass(12);
        check.due("foretell of one that has left", x.foretell(1, 3), ILLEGAL);
        check.due("a wrong what comes first", x.foretell(1, -1), INVALID);
    }

    private static void foretell(Check check) {
        BeggingBoards x = steady();
        x.load(0, 1);
        for (int left = 12; left >= 1; left--) {
            check.due("kinds", x.foretell(0, 0), 1);
            check.due("peak", x.foretell(0, 1), 228);
            check.due("ticks", x.foretell(0, 2), left);
            check.due("degrees", x.foretell(0, 3), 102);
            x.pass(1);
        }
        BeggingBoards y = steady();
        y.setCurve(1, 2, 5);
        y.setCurve(1, 4, 229);
        y.set(0, 1);
        for (int zone = 0; zone < 6; zone++) {
            y.setZone(zone, 8, 20, 5);
        }
        y.load(1, 1);
        check.due("the longest ride", y.foretell(0, 2), 48);
        check.due("it never became warm", y.foretell(0, 1) * 100 + y.foretell(0, 3), 2020);
        check.due("both kinds at the end", y.foretell(0, 0), 24);
        y.set(0, 3);
        check.due("by the speed as it is", y.foretell(0, 2), 16);
    }

    private static void foretellHearsPleas(Check check) {
        BeggingBoards x = new BeggingBoards();
        x.set(3, 0);
        x.set(2, 9);
        x.setCurve(0, 0, 1);
        x.setCurve(1, 0, 99);
        x.setCurve(1, 1, 300);
        x.load(1, 1);
        x.pass(2);
        check.due("alone", x.foretell(0, 2), 10);
        x.load(0, 9);
        // The board 1 pleads in the next tick, from which on the speed is 1.
        check.due("with another that pleads", x.foretell(0, 2), 1 + 18);
        x.set(2, 0);
        check.due("if pleas are not heard", x.foretell(0, 2), 10);
    }

    private static void wouldFailWrongly(Check check) {
        BeggingBoards x = new BeggingBoards();
        int[] wrongCurves = {-1, 4, LOW, HIGH};
        int[] wrongWeights = {0, 10, LOW, HIGH};
        int[] wrongSpeeds = {-1, 4, LOW, HIGH};
        for (int i = 0; i < 4; i++) {
            check.due("wouldFail on no curve", x.wouldFail(wrongCurves[i], 1, 1), INVALID);
            check.due("wouldFail with a wrong weight", x.wouldFail(0, wrongWeights[i], 1), INVALID);
            check.due("wouldFail with a wrong speed", x.wouldFail(0, 1, wrongSpeeds[i]), INVALID);
            check.due("heaviest on no curve", x.heaviest(wrongCurves[i]), INVALID);
        }
    }

    private static void wouldFail(Check check) {
        BeggingBoards x = steady();
        x.setCurve(2, 0, 30);
        x.setCurve(2, 3, 1);
        x.setCurve(2, 5, 225);
        x.setCurve(2, 2, 5);
        x.setCurve(2, 4, 229);
        check.due("all kinds", x.wouldFail(2, 1, 0), 31);
        check.due("on another curve", x.wouldFail(0, 1, 0), 1);
        check.due("of another weight", x.wouldFail(0, 3, 0), 0);
        for (int speed = 1; speed <= 3; speed++) {
            for (int weight = 1; weight <= 9; weight++) {
                BeggingBoards y = steady();
                y.set(0, speed);
                y.load(0, weight);
                y.pass(24);
                check.due("the weight " + weight + " at the speed " + speed,
                        x.wouldFail(0, weight, speed), y.board(0, 8));
            }
        }
        for (int curve = 0; curve < 4; curve++) {
            check.due("on the curve " + curve, x.wouldFail(curve, 9, 3), 24);
            check.due("heaviest on the curve " + curve, x.heaviest(curve), curve == 2 ? NONE : 3);
        }
        check.due("slow and light", x.wouldFail(0, 1, 1), 3);
        check.due("fast and heavy", x.wouldFail(0, 9, 3), 24);
    }

    private static void wouldFailHearsPleasAtSpeedZeroAlone(Check check) {
        BeggingBoards x = new BeggingBoards();
        x.set(3, 0);
        x.set(2, 1);
        x.setCurve(0, 0, 1);
        x.setCurve(0, 1, 300);
        x.setCurve(0, 2, 0);
        x.setCurve(0, 4, 200);
        x.set(0, 3);
        // Of the weight 5: at the speed 3 the peak stays low, but pleas make the ride slow and it is reached.
        check.due("pleas are heard", x.wouldFail(0, 5, 0), 1);
        check.due("pleas are not heard", x.wouldFail(0, 5, 3), 17);
        x.set(2, 0);
        check.due("by the bound as it is", x.wouldFail(0, 5, 0), 17);
        x.set(0, 1);
        check.due("by the speed as it is", x.wouldFail(0, 5, 0), 1);
        check.due("by the speed that is told", x.wouldFail(0, 5, 3), 17);
        check.due("the speed of the belt stays", x.count(7), 1);
    }

    private static void whetherItCanBeLoadedOrNot(Check check) {
        BeggingBoards x = new BeggingBoards();
        x.set(3, 6);
        x.set(2, 0);
        x.set(1, 1);
        check.due("alone", x.wouldFail(0, 3, 0), 0);
        x.load(0, 9);
        x.set(1, 20);
        check.due("it cannot be loaded", x.load(0, 3), BeggingBoards.ILLEGAL_STATE);
        check.due("behind one that cools the zones", x.wouldFail(0, 3, 0), 24);
        check.due("no board is loaded by it", x.count(1), 1);
        BeggingBoards y = steady();
        y.set(1, 1);
        y.set(0, 1);
        for (int board = 0; board < 30; board++) {
            y.load(0, 9);
            y.pass(1);
        }
        check.due("thirty are loaded", y.load(0, 1), BeggingBoards.CAPACITY_EXCEEDED);
        check.due("wouldFail then", y.wouldFail(0, 1, 2), 1);
        check.due("of a heavier one", y.wouldFail(0, 3, 2), 0);
        check.due("heaviest then", y.set(0, 2) + y.heaviest(0), 1 + heaviestOf(y, 0));
        check.due("room then", y.room(), 0);
        check.due("thirty are loaded still", y.count(1), 30);
    }

    private static int heaviestOf(BeggingBoards x, int curve) {
        for (int weight = 9; weight > 0; weight--) {
            if (x.wouldFail(curve, weight, 0) == 0) {
                return weight;
            }
        }
        return NONE;
    }

    private static void heaviest(Check check) {
        BeggingBoards x = steady();
        for (int weight = 1; weight <= 9; weight++) {
            check.due("the weight " + weight, x.wouldFail(0, weight, 0) == 0 ? 1 : 0,
                    weight == 2 || weight == 3 ? 1 : 0);
        }
        check.due("heaviest", x.heaviest(0), 3);
        x.setCurve(1, 2, 0);
        x.setCurve(1, 4, 20);
        check.due("heaviest of all", x.heaviest(1), 9);
        x.setCurve(2, 4, 300);
        check.due("none", x.heaviest(2), NONE);
        x.setCurve(3, 0, 99);
        x.setCurve(3, 4, 227);
        check.due("the lightest alone", x.heaviest(3), 1);
        x.set(0, 1);
        check.due("by the speed as it is", x.heaviest(0), heaviestOf(x, 0));
        x.set(2, 1);
        check.due("by the bound as it is", x.heaviest(0), heaviestOf(x, 0));
    }

    private static void room(Check check) {
        BeggingBoards x = steady();
        check.due("an empty belt", x.room(), 0);
        x.load(0, 1);
        check.due("the gap 3 at the speed 2", x.room(), 2);
        x.set(1, 4);
        check.due("the gap 4 at the speed 2", x.room(), 2);
        x.set(1, 5);
        check.due("the gap 5 at the speed 2", x.room(), 3);
        x.set(0, 3);
        check.due("the gap 5 at the speed 3", x.room(), 2);
        x.set(0, 1);
        check.due("the gap 5 at the speed 1", x.room(), 5);
        x.pass(4);
        check.due("later", x.room(), 1);
        x.pass(1);
        check.due("at last", x.room(), 0);
        x.set(1, 20);
        check.due("the widest gap", x.room(), 15);
        x.takeOff(0);
        check.due("a board taken off is in no gap", x.room(), 0);
        for (int zone = 0; zone < 6; zone++) {
            x.setZone(zone, 2, 100, 5);
        }
        x.load(0, 1);
        check.due("the gap is longer than the belt", x.room(), 12);
        BeggingBoards y = new BeggingBoards();
        y.set(3, 0);
        y.set(2, 1);
        y.set(1, 9);
        y.load(0, 1);
        // It pleads in cell 2 and in cell 3, and goes on by 1 from cell 2 on.
        check.due("pleas are heard", y.room(), 8);
        y.set(2, 0);
        check.due("pleas are not heard", y.room(), 5);
    }

    private static BeggingBoards busy() {
        BeggingBoards x = new BeggingBoards();
        x.set(3, 4);
        x.set(2, 3);
        x.set(1, 2);
        for (int board = 0; board < 9; board++) {
            x.setCurve(board % 4, 0, 10 + 4 * board);
            x.load(board % 4, 1 + board * 5 % 9);
            x.pass(1 + board % 2);
        }
        x.take(0);
        x.append('p');
        return x;
    }

    private static void nothingChanges(Check check) {
        BeggingBoards x = busy();
        String before = Looking.atAll(x);
        for (int curve = 0; curve < 4; curve++) {
            x.heaviest(curve);
            for (int weight = 1; weight <= 9; weight++) {
                for (int speed = 0; speed <= 3; speed++) {
                    x.wouldFail(curve, weight, speed);
                }
            }
        }
        for (int board = 0; board < x.count(1); board++) {
            for (int what = 0; what < 4; what++) {
                x.foretell(board, what);
            }
        }
        x.room();
        check.holds("forecasts change nothing", Looking.atAll(x).equals(before));
        x.undo();
        BeggingBoards same = busy();
        same.undo();
        check.holds("nor the history", Looking.atAll(x).equals(Looking.atAll(same)));
    }

    private static void asThingsTurnOut(Check check) {
        BeggingBoards x = busy();
        int board = x.count(1) - 1;
        int kinds = x.foretell(board, 0);
        int peak = x.foretell(board, 1);
        int ticks = x.foretell(board, 2);
        int degrees = x.foretell(board, 3);
        x.pass(ticks - 1);
        check.due("on the belt till then", x.board(board, 2), 0);
        x.pass(1);
        check.due("left then", x.board(board, 2), 1);
        check.due("its kinds", x.board(board, 8), kinds);
        check.due("its peak", x.board(board, 6), peak);
        check.due("its degrees", x.board(board, 4), degrees);
        BeggingBoards y = busy();
        y.set(1, 20);
        int wait = y.room();
        check.holds("it is a while", wait > 1);
        y.pass(wait - 1);
        check.due("no room before", y.load(0, 1), BeggingBoards.ILLEGAL_STATE);
        y.pass(1);
        int heaviest = y.heaviest(0);
        int weight = heaviest > 0 ? heaviest : 5;
        int would = y.wouldFail(0, weight, 0);
        int number = y.count(1);
        check.due("room then", y.load(0, weight), number);
        y.pass(48);
        check.due("what the board would be", y.board(number, 8), would);
    }
}
