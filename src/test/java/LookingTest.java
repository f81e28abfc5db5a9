/** Promises 14 and 17 to 20: count, board, fault, worstCell, faultCells. */
public final class LookingTest {
    private static final int INVALID = BeggingBoards.INVALID_ARGUMENT;
    private static final int NONE = BeggingBoards.NONE;
    private static final int LOW = Integer.MIN_VALUE;
    private static final int HIGH = Integer.MAX_VALUE;

    private LookingTest() {
    }

    public static void main(String[] args) {
        Check check = new Check("LookingTest");
        count(check);
        wrongArguments(check);
        eachKindAndItsEdge(check);
        faultsAreToldWhereTheyWereFirst(check);
        faultsAreLookedAtInTicksAlone(check);
        faultsOfSeveralBoards(check);
        worstCell(check);
        worstCellOfThoseThatLeft(check);
        faultCells(check);
        check.end();
    }

    private static BeggingBoards steady() {
        BeggingBoards x = new BeggingBoards();
        x.set(3, 0);
        x.set(2, 0);
        return x;
    }

    private static void count(Check check) {
        BeggingBoards x = steady();
        x.set(1, 4);
        x.load(0, 1);
        x.pass(2);
        x.load(0, 3);
        x.pass(2);
        x.load(0, 5);
        x.pass(2);
        x.takeOff(2);
        x.load(0, 6);
        x.take(1);
        x.append('p');
        x.append('p');
        int[] before = {6, 4, 3, 0, 0, 1, 24, 2, 4, 0, 0, 0, 0, 1, 5, 2};
        for (int what = 0; what < before.length; what++) {
            check.due("count " + what, x.count(what), before[what]);
        }
        x.pass(9);
        check.due("two have left", x.count(3), 2);
        check.due("one of them without a fault", x.count(4), 1);
        check.due("the first has one", x.board(0, 8), 1);
        check.due("one is on the belt", x.count(2), 1);
        check.due("it has no fault, but has not left", x.board(3, 8), 0);
        check.due("one taken off without a fault does not count", x.board(2, 8), 0);
        x.setZone(0, 8, 100, 5);
        check.due("the length of the belt stays while a board is on it", x.count(6), 24);
        x.pass(3);
        x.setZone(0, 8, 100, 5);
        check.due("the length of the belt", x.count(6), 28);
        int[] wrong = {-1, 16, LOW, HIGH};
        for (int what : wrong) {
            check.due("count " + what, x.count(what), INVALID);
        }
    }

    private static void wrongArguments(Check check) {
        BeggingBoards x = new BeggingBoards();
        check.due("board 0 before there is one", x.board(0, 0), INVALID);
        check.due("fault of board 0 before there is one", x.fault(0, 0, 0), INVALID);
        x.load(0, 1);
        int[] wrongBoards = {-1, 1, 30, LOW, HIGH};
        for (int board : wrongBoards) {
            check.due("board " + board, x.board(board, 0), INVALID);
            check.due("fault of board " + board, x.fault(board, 0, 0), INVALID);
        }
        int[] wrongWhats = {-1, 11, 12, 21, LOW, HIGH};
        for (int what : wrongWhats) {
            check.due("board 0 " + what, x.board(0, what), INVALID);
        }
        int[] wrongKinds = {-1, 5, LOW, HIGH};
        int[] wrong = {-1, 2, LOW, HIGH};
        for (int i = 0; i < 4; i++) {
            check.due("fault of the kind " + wrongKinds[i], x.fault(0, wrongKinds[i], 0), INVALID);
            check.due("fault, what " + wrong[i], x.fault(0, 0, wrong[i]), INVALID);
            check.due("worstCell of the kind " + wrongKinds[i], x.worstCell(wrongKinds[i], 0), INVALID);
            check.due("worstCell of the kind " + wrongKinds[i], x.worstCell(wrongKinds[i], 1), INVALID);
            check.due("worstCell, what " + wrong[i], x.worstCell(0, wrong[i]), INVALID);
        }
        for (int kind = 0; kind < 5; kind++) {
            check.due("no fault, cell", x.fault(0, kind, 0), NONE);
            check.due("no fault, tick", x.fault(0, kind, 1), NONE);
            check.due("no fault, worst cell", x.worstCell(kind, 0), NONE);
            check.due("no fault, boards", x.worstCell(kind, 1), 0);
        }
        check.due("no fault, cells", x.faultCells(), 0);
    }

    /** A board of the weight 1 has 70 degrees after its first tick, 228 at its peak, and 4 ticks above 180. */
    private static void eachKindAndItsEdge(Check check) {
        check.due("a rise of 50 against 50", ride(0, 50) & 1, 0);
        check.due("a rise of 50 against 49", ride(0, 49) & 1, 1);
        check.due("four ticks above against at most 4", ride(3, 4) & 2, 0);
        check.due("four ticks above against at most 3", ride(3, 3) & 2, 2);
        check.due("a peak of 228 against at most 228", ride(5, 228) & 4, 0);
        check.due("a peak of 228 against at most 227", ride(5, 227) & 4, 4);
        check.due("four ticks above against at least 4", ride(2, 4) & 8, 0);
        check.due("four ticks above against at least 5", ride(2, 5) & 8, 8);
        check.due("a peak of 228 against at least 228", ride(4, 228) & 16, 0);
        check.due("a peak of 228 against at least 229", ride(4, 229) & 16, 16);
        BeggingBoards x = steady();
        x.setCurve(0, 1, 228);
        x.load(0, 1);
        x.pass(12);
        check.due("228 degrees are not above 228", x.board(0, 7), 0);
        BeggingBoards y = steady();
        y.setCurve(0, 1, 227);
        y.load(0, 1);
        y.pass(12);
        check.due("but above 227", y.board(0, 7), 1);
        BeggingBoards z = steady();
        z.setCurve(1, 0, 1);
        z.load(0, 9);
        z.pass(1);
        check.due("the board's own curve counts", z.board(0, 8), 0);
    }

    private static int ride(int what, int value) {
        BeggingBoards x = steady();
        x.setCurve(2, what, value);
        x.load(2, 1);
        x.pass(12);
        return x.board(0, 8);
    }

    private static void faultsAreToldWhereTheyWereFirst(Check check) {
        BeggingBoards x = steady();
        x.pass(10);
        x.setCurve(1, 0, 30);
        x.setCurve(1, 3, 1);
        x.setCurve(1, 5, 225);
        x.setCurve(1, 2, 5);
        x.setCurve(1, 4, 229);
        x.load(1, 1);
        int[][] faults = {{2, 10}, {14, 16}, {16, 17}, {24, 21}, {24, 21}};
        int[] kindsByTick = {1, 1, 1, 1, 1, 1, 3, 7, 7, 7, 7, 31};
        for (int tick = 0; tick < 12; tick++) {
            x.pass(1);
            check.due("the kinds after tick " + tick, x.board(0, 8), kindsByTick[tick]);
            for (int kind = 0; kind < 5; kind++) {
                boolean had = (kindsByTick[tick] >> kind & 1) == 1;
                check.due("cell of kind " + kind, x.fault(0, kind, 0), had ? faults[kind][0] : NONE);
                check.due("tick of kind " + kind, x.fault(0, kind, 1), had ? faults[kind][1] : NONE);
            }
        }
        check.due("it left at", x.board(0, 10), 21);
        check.due("the length of the belt later", x.setZone(0, 8, 120, 5), 28);
        check.due("changes nothing", x.fault(0, 3, 0), 24);
        check.due("left with faults", x.count(3) * 10 + x.count(4), 10);
    }

    private static void faultsAreLookedAtInTicksAlone(Check check) {
        BeggingBoards x = steady();
        x.load(0, 4);
        x.pass(1);
        check.due("a rise of 20", x.board(0, 5), 20);
        x.setCurve(0, 0, 1);
        check.due("no fault by setCurve", x.board(0, 8) + x.board(0, 9), 0);
        x.setCurve(0, 0, 40);
        x.pass(1);
        check.due("no fault in the next tick, by the curve then", x.board(0, 8), 0);
        x.setCurve(0, 0, 1);
        x.pass(1);
        check.due("a fault in this tick", x.board(0, 8), 1);
        x.setCurve(0, 0, 99);
        x.pass(1);
        check.due("a fault stays", x.board(0, 8), 1);
        check.due("where it was first", x.fault(0, 0, 0) * 10 + x.fault(0, 0, 1), 62);
        x.setCurve(0, 4, 20);
        x.setCurve(0, 2, 0);
        x.pass(8);
        check.due("it has left", x.board(0, 2), 1);
        x.setCurve(0, 4, 300);
        x.setCurve(0, 2, 99);
        x.setCurve(0, 3, 0);
        x.setCurve(0, 5, 20);
        x.pass(5);
        check.due("no fault afterwards", x.board(0, 8), 1);
        BeggingBoards y = steady();
        y.load(0, 9);
        y.pass(3);
        y.takeOff(0);
        y.setCurve(0, 5, 20);
        y.pass(30);
        check.due("no fault when it is taken off", y.board(0, 8), 0);
        // A melting point that is lowered counts from the next tick on.
        BeggingBoards z = steady();
        z.load(0, 1);
        z.pass(2);
        z.setCurve(0, 1, 20);
        check.due("no tick above by setCurve", z.board(0, 7), 0);
        z.pass(1);
        check.due("one tick above", z.board(0, 7), 1);
    }

    private static void faultsOfSeveralBoards(Check check) {
        BeggingBoards x = steady();
        int[] weights = {1, 4, 3, 9, 2};
        int[] kinds = {1, 24, 0, 24, 0};
        for (int board = 0; board < 5; board++) {
            x.load(0, weights[board]);
            x.pass(2);
        }
        x.pass(20);
        for (int board = 0; board < 5; board++) {
            check.due("the kinds of board " + board, x.board(board, 8), kinds[board]);
            check.due("it left at", x.board(board, 10), 11 + 2 * board);
            check.due("its cell of kind 3", x.fault(board, 3, 0), kinds[board] == 24 ? 24 : NONE);
            check.due("its tick of kind 3", x.fault(board, 3, 1), kinds[board] == 24 ? 11 + 2 * board : NONE);
            check.due("its cell of kind 0", x.fault(board, 0, 0), kinds[board] == 1 ? 2 : NONE);
        }
        check.due("five have left", x.count(3), 5);
        check.due("two of them without a fault", x.count(4), 2);
        check.due("most of kind 4", x.worstCell(4, 0) * 10 + x.worstCell(4, 1), 242);
        check.due("cells", x.faultCells(), 2);
        BeggingBoards y = steady();
        y.load(0, 3);
        y.pass(12);
        check.due("the first board of all without a fault", y.count(4), 1);
        y.undo();
        y.undo();
        check.due("one that was never loaded is counted nowhere", y.count(1) + y.count(2) + y.count(3) + y.count(4), 0);
    }

    private static void worstCell(Check check) {
        BeggingBoards x = steady();
        x.set(1, 1);
        x.load(0, 1);
        x.pass(1);
        check.due("one board, in cell 2", x.worstCell(0, 0) * 10 + x.worstCell(0, 1), 21);
        x.set(0, 1);
        x.load(0, 1);
        x.pass(1);
        check.due("one in cell 1 and one in cell 2: the smaller cell", x.worstCell(0, 0) * 10 + x.worstCell(0, 1), 11);
        check.due("two cells", x.faultCells(), 2);
        x.set(0, 2);
        x.load(0, 1);
        x.pass(1);
        check.due("two in cell 2", x.worstCell(0, 0) * 10 + x.worstCell(0, 1), 22);
        check.due("still two cells", x.faultCells(), 2);
        x.takeOff(0);
        x.takeOff(2);
        check.due("those taken off count too", x.worstCell(0, 0) * 10 + x.worstCell(0, 1), 22);
        check.due("other kinds are not counted", x.worstCell(1, 1) + x.worstCell(2, 1), 0);
        x.undo();
        x.undo();
        x.undo();
        check.due("undone", x.worstCell(0, 0) * 10 + x.worstCell(0, 1), 11);
    }

    private static void worstCellOfThoseThatLeft(Check check) {
        BeggingBoards x = steady();
        for (int zone = 0; zone < 6; zone++) {
            x.setZone(zone, 8, 100, 5);
        }
        x.set(0, 3);
        x.load(0, 9);
        x.pass(16);
        check.due("beyond the longest belt", x.worstCell(4, 0) * 10 + x.worstCell(4, 1), 481);
        check.due("of both kinds", x.worstCell(3, 0) * 10 + x.worstCell(3, 1), 481);
        check.due("in one cell", x.faultCells(), 1);
        x.setZone(0, 2, 100, 5);
        x.load(0, 9);
        x.pass(16);
        check.due("a shorter belt: the smaller cell", x.worstCell(3, 0) * 10 + x.worstCell(3, 1), 421);
        check.due("in two cells", x.faultCells(), 2);
    }

    private static void faultCells(Check check) {
        BeggingBoards x = steady();
        x.setCurve(1, 0, 30);
        x.setCurve(1, 3, 1);
        x.setCurve(1, 5, 225);
        x.setCurve(1, 2, 5);
        x.load(1, 1);
        int[] cellsByTick = {1, 1, 1, 1, 1, 1, 2, 3, 3, 3, 3, 4};
        for (int tick = 0; tick < 12; tick++) {
            x.pass(1);
            check.due("cells after tick " + tick, x.faultCells(), cellsByTick[tick]);
        }
        BeggingBoards y = steady();
        y.setCurve(0, 0, 1);
        y.setCurve(0, 1, 20);
        y.setCurve(0, 3, 0);
        y.setCurve(0, 5, 20);
        y.load(0, 1);
        y.pass(1);
        check.due("three kinds", y.board(0, 8), 7);
        check.due("in one cell", y.faultCells(), 1);
        y.takeOff(0);
        check.due("a board taken off counts too", y.faultCells(), 1);
    }
}
