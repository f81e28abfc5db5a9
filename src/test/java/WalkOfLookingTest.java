import java.io.IOException;

/** The document from promise 14 to its last line: the looking calls and the forecasts. */
public final class WalkOfLookingTest {
    private static final int INVALID = BeggingBoards.INVALID_ARGUMENT;
    private static final int ILLEGAL = BeggingBoards.ILLEGAL_STATE;
    private static final int FULL = BeggingBoards.CAPACITY_EXCEEDED;
    private static final int NONE = BeggingBoards.NONE;
    private static final Scene FRESH = Scenes.FRESH;
    private static final Scene LOADED = FRESH.then("a board after two ticks", x -> {
        x.load(2, 3);
        x.pass(2);
    });

    // The ride of a board of the weight 1 through a new oven in which boards cool no zone and change no speed.
    private static final int[] DEGREES = {70, 115, 137, 158, 169, 204, 222, 226, 228, 144, 102};
    private static final int[] RISES = {50, 45, 22, 21, 11, 35, 18, 4, 2, -84, -42};

    private WalkOfLookingTest() {
    }

    public static void main(String[] args) throws IOException {
        Walk w = new Walk("WalkOfLookingTest", Walk.LOOKING, Walk.END);
        count(w);
        countOfPleas(w);
        countOfTheRest(w);
        zone(w);
        curve(w);
        board(w);
        boardOnItsRide(w);
        fault(w);
        worstCell(w);
        faultCells(w);
        foretell(w);
        wouldFail(w);
        heaviest(w);
        room(w);
        notPromised(w);
        w.end();
    }

    /** Boards cool no zone and change no speed. */
    private static BeggingBoards steady() {
        BeggingBoards x = new BeggingBoards();
        x.set(2, 0);
        x.set(3, 0);
        return x;
    }

    // ---- promise 14

    /** Of four boards the first and the second leave after 12 and 14 ticks, the third was taken off. */
    private static BeggingBoards four() {
        BeggingBoards x = steady();
        x.load(0, 3);
        x.pass(2);
        x.load(0, 1);
        x.pass(2);
        x.load(0, 3);
        x.pass(2);
        x.takeOff(2);
        x.load(0, 2);
        return x;
    }

    private static void count(Walk w) {
        w.heading("## Promise 14: count");
        w.says("`int count(int what)`: Returns a number.");
        for (int what = 0; what <= 15; what++) {
            w.holds("the number " + what, new BeggingBoards().count(what) >= 0);
        }
        BeggingBoards x = four();
        BeggingBoards later = four();
        later.pass(6);
        BeggingBoards last = four();
        last.pass(8);
        w.says("- `what`: 0 the ticks that have passed,");
        counts(w, 0, x, 6, later, 12, last, 14);
        w.says("1 the number of boards loaded,");
        counts(w, 1, x, 4, later, 4, last, 4);
        w.says("2 of boards on the belt,");
        counts(w, 2, x, 3, later, 2, last, 1);
        w.says("3 of those that have left,");
        counts(w, 3, x, 0, later, 1, last, 2);
        w.says("4 of those of these that have no fault,");
        w.due("the second has one", last.board(1, 8), 1);
        counts(w, 4, x, 0, later, 1, last, 1);
        BeggingBoards restored = new BeggingBoards();
        restored.take(0);
        restored.load(0, 3);
        restored.pass(12);
        w.due("it has none", restored.count(4), 1);
        w.due("back to the ticks", restored.restore(0), 0);
        w.due("it was not loaded yet", restored.count(4), 0);
        w.says("5 of boards taken off,");
        counts(w, 5, x, 1, later, 1, last, 1);
        w.says("6 the length of the belt,");
        BeggingBoards longer = new BeggingBoards();
        longer.setZone(3, 7, 240, 5);
        BeggingBoards shorter = new BeggingBoards();
        shorter.setZone(0, 2, 120, 5);
        counts(w, 6, x, 24, longer, 27, shorter, 22);
        w.says("7 to 10 what set() sets for 0 to 3,");
        int[] values = {1, 20, 99, 9};
        for (int what = 0; what < 4; what++) {
            BeggingBoards y = new BeggingBoards();
            y.set(what, values[what]);
            for (int number = 0; number < 4; number++) {
                int due = number == what ? values[what] : new int[] {2, 3, 6, 1}[number];
                w.due("the number " + (7 + number) + " after set(" + what + ", ..)", y.count(7 + number), due);
            }
        }
    }

    private static void counts(Walk w, int what, BeggingBoards first, int ofFirst, BeggingBoards second, int ofSecond,
            BeggingBoards third, int ofThird) {
        w.due("first", first.count(what), ofFirst);
        w.due("second", second.count(what), ofSecond);
        w.due("third", third.count(what), ofThird);
    }

    private static void countOfPleas(Walk w) {
        w.says("11 how often the speed became less by pleas,");
        BeggingBoards x = Scenes.flat(300).make();
        x.setCurve(0, 0, 1);
        x.set(2, 1);
        x.set(0, 3);
        x.load(0, 9);
        int[] speeds = {2, 1, 1};
        int[] less = {1, 2, 2};
        for (int tick = 0; tick < 3; tick++) {
            x.pass(1);
            w.due("the speed", x.count(7), speeds[tick]);
            w.due("how often", x.count(11), less[tick]);
        }
        x.set(0, 2);
        x.set(0, 1);
        w.due("set is no plea", x.count(11), 2);
        w.due("not greater", x.count(12), 0);
        w.says("12 how often it became greater,");
        BeggingBoards y = Scenes.flat(100).make();
        y.setCurve(1, 0, 99);
        y.setCurve(1, 1, 20);
        y.setCurve(1, 3, 0);
        y.set(2, 1);
        y.set(0, 1);
        y.load(1, 9);
        for (int tick = 0; tick < 3; tick++) {
            y.pass(1);
            w.due("the speed", y.count(7), 4 - speeds[tick]);
            w.due("how often", y.count(12), less[tick]);
        }
        y.set(0, 2);
        y.set(0, 3);
        w.due("set is no plea", y.count(12), 2);
        w.due("not less", y.count(11), 0);
    }

    private static void countOfTheRest(Walk w) {
        w.says("13 the number of snapshots,");
        BeggingBoards x = new BeggingBoards();
        int[] slots = {1, 1, 0};
        int[] snapshots = {1, 1, 2};
        for (int i = 0; i < 3; i++) {
            x.take(slots[i]);
            w.due("snapshots", x.count(13), snapshots[i]);
        }
        w.says("14 of states in the history,");
        w.due("three", x.count(14), 3);
        x.undo();
        w.due("two", x.count(14), 2);
        w.says("15 the length of the text");
        Scenes.write(x, "l0,1");
        w.due("characters", x.count(15), 4);
        w.says("Returns the number;");
        int[] fresh = {0, 0, 0, 0, 0, 0, 24, 2, 3, 6, 1, 0, 0, 0, 0, 0};
        for (int what = 0; what <= 15; what++) {
            w.due("the number " + what + " of a new object", new BeggingBoards().count(what), fresh[what]);
        }
        w.says("INVALID_ARGUMENT if what is out of range.");
        w.outside(FRESH, "count(..)", 0, 15, BeggingBoards::count);
        w.outside(Scenes.BUSY, "count(..)", 0, 15, BeggingBoards::count);
    }

    // ---- promises 15 and 16

    private static void zone(Walk w) {
        w.heading("## Promise 15: zone");
        w.says("`int zone(int zone, int what)`: Tells about a zone.");
        BeggingBoards x = new BeggingBoards();
        x.setZone(2, 6, 200, 9);
        x.set(0, 1);
        x.set(1, 1);
        x.set(2, 0);
        x.set(3, 9);
        x.load(0, 9);
        x.pass(1);
        x.load(0, 8);
        x.pass(1);
        // 120 loses 81 / 5, then 153 / 5, and gains 5 each time.
        int[] first = {4, 120, 5, 84, 0, 2, 17};
        int[] third = {6, 200, 9, 200, 8, 0, 0};
        for (int what = 0; what <= 6; what++) {
            w.due("of the zone 0, " + what, x.zone(0, what), first[what]);
            w.due("of the zone 2, " + what, x.zone(2, what), third[what]);
        }
        w.says("- `zone`: 0 to 5");
        for (int what = 0; what <= 6; what++) {
            int number = what;
            w.outside(LOADED, "zone(.., " + what + ")", 0, 5, (y, v) -> y.zone(v, number));
        }
        w.says("- `what`: 0 its length,");
        x.pass(2);
        w.due("of the zone 2", x.zone(2, 0), 6);
        w.says("1 its target,");
        w.due("while it is colder", x.zone(0, 1), 120);
        w.says("2 its power,");
        w.due("of the zone 2", x.zone(2, 2), 9);
        w.says("3 its warmth,");
        // 84 loses 30 once more; then the first board comes to zone 1, and the zones lose 72 / 5 and 81 / 5.
        w.due("of the zone 0", x.zone(0, 3), 84 - 30 + 5 - 14 + 5);
        w.due("of the zone 1", x.zone(1, 3), 160 - 16 + 5);
        w.says("4 its first cell,");
        int[] cells = {0, 4, 8, 14, 18, 22};
        for (int zone = 0; zone < 6; zone++) {
            w.due("of the zone " + zone, x.zone(zone, 4), cells[zone]);
        }
        w.says("5 the number of boards in it,");
        w.due("of the zone 0", x.zone(0, 5), 1);
        w.due("of the zone 1", x.zone(1, 5), 1);
        w.says("6 the sum of their weights");
        w.due("of the zone 0", x.zone(0, 6), 8);
        w.due("of the zone 1", x.zone(1, 6), 9);
        w.says("Returns the value;");
        x.takeOff(0);
        w.due("without the one that was taken off", x.zone(1, 5) * 10 + x.zone(1, 6), 0);
        w.says("INVALID_ARGUMENT if an argument is out of range.");
        w.outside(LOADED, "zone(0, ..)", 0, 6, (y, v) -> y.zone(0, v));
        w.outside(LOADED, "zone(5, ..)", 0, 6, (y, v) -> y.zone(5, v));
        w.refuses(LOADED, "both", INVALID, y -> y.zone(6, 7));
    }

    private static void curve(Walk w) {
        w.heading("## Promise 16: curve");
        w.says("`int curve(int curve, int what)`: Returns a number of a curve.");
        BeggingBoards x = new BeggingBoards();
        x.setCurve(1, 4, 123);
        w.due("the one that was set", x.curve(1, 4), 123);
        w.due("its neighbour", x.curve(1, 5), 240);
        w.due("that of another curve", x.curve(2, 4), 190);
        w.says("- `curve`: 0 to 3");
        w.outside(LOADED, "curve(.., 0)", 0, 3, (y, v) -> y.curve(v, 0));
        w.outside(LOADED, "curve(.., 5)", 0, 3, (y, v) -> y.curve(v, 5));
        w.says("- `what`: 0 to 5");
        w.outside(LOADED, "curve(0, ..)", 0, 5, (y, v) -> y.curve(0, v));
        w.outside(LOADED, "curve(3, ..)", 0, 5, (y, v) -> y.curve(3, v));
        w.says("Returns the number;");
        int[] first = {40, 180, 2, 6, 190, 240};
        for (int i = 0; i < 24; i++) {
            w.due("the number " + i % 6 + " of the curve " + i / 6, LOADED.make().curve(i / 6, i % 6), first[i % 6]);
        }
        w.says("INVALID_ARGUMENT if an argument is out of range.");
        w.refuses(LOADED, "both", INVALID, y -> y.curve(-1, -1));
    }

    // ---- promise 17

    private static void board(Walk w) {
        w.heading("## Promise 17: board");
        w.says("`int board(int board, int what)`: Tells about a board.");
        BeggingBoards x = four();
        x.pass(8);
        w.due("of the first", x.board(0, 1), 3);
        w.due("of the second", x.board(1, 1), 1);
        w.says("- `board`: a board");
        w.outside(LOADED, "board(.., 0)", 0, 0, (y, v) -> y.board(v, 0));
        w.outside(Scenes.FULL, "board(.., 10)", 0, 29, (y, v) -> y.board(v, 10));
        w.says("- `what`: 0 its curve,");
        w.due("of another", LOADED.make().board(0, 0), 2);
        w.due("of this", x.board(3, 0), 0);
        w.says("1 its weight,");
        w.due("of the last", x.board(3, 1), 2);
        w.says("2 its state (0 on the belt, 1 left, 2 taken off),");
        int[] states = {1, 1, 2, 0};
        for (int board = 0; board < 4; board++) {
            w.due("of the board " + board, x.board(board, 2), states[board]);
        }
        w.says("3 its cell (NONE if it is not on the belt),");
        int[] cells = {NONE, NONE, NONE, 16};
        for (int board = 0; board < 4; board++) {
            w.due("of the board " + board, x.board(board, 3), cells[board]);
        }
        w.says("4 its degrees (the latest ones if it is not on the belt),");
        // Two at the end of their rides, one taken off after two ticks, and one after eight.
        int[] degrees = {139, 102, 73, 209};
        for (int board = 0; board < 4; board++) {
            w.due("of the board " + board, x.board(board, 4), degrees[board]);
        }
    }

    private static void boardOnItsRide(Walk w) {
        BeggingBoards[] after = new BeggingBoards[13];
        for (int ticks = 0; ticks <= 12; ticks++) {
            BeggingBoards y = steady();
            y.setCurve(0, 3, 2);
            y.setCurve(0, 5, 225);
            y.load(0, 1);
            for (int tick = 0; tick < ticks; tick++) {
                y.pass(1);
            }
            after[ticks] = y;
            w.due("after " + ticks + " ticks", y.board(0, 4), ticks == 0 ? 20 : DEGREES[Math.min(ticks, 11) - 1]);
        }
        w.says("5 its latest rise (0 before its first tick),");
        for (int ticks = 0; ticks <= 12; ticks++) {
            w.due("after " + ticks, after[ticks].board(0, 5), ticks == 0 ? 0 : RISES[Math.min(ticks, 11) - 1]);
        }
        w.says("6 its peak,");
        int[] peaks = {20, 70, 115, 137, 158, 169, 204, 222, 226, 228, 228, 228, 228};
        tells(w, after, 6, peaks);
        w.says("7 its ticks above,");
        int[] above = {0, 0, 0, 0, 0, 0, 1, 2, 3, 4, 4, 4, 4};
        tells(w, after, 7, above);
        w.says("8 the set of kinds of its faults (bit k for the kind k),");
        int[] kinds = {0, 1, 1, 1, 1, 1, 1, 1, 7, 7, 7, 7, 7};
        tells(w, after, 8, kinds);
        BeggingBoards cold = Scenes.flat(20).make();
        cold.load(0, 1);
        cold.pass(12);
        w.due("the kinds 3 and 4", cold.board(0, 8), 24);
        w.says("9 its plea by its latest tick on the belt (0 none, 1 slower, 2 faster),");
        int[] pleas = {0, 1, 1, 0, 0, 0, 0, 0, 2, 2, 2, 2, 2};
        tells(w, after, 9, pleas);
        w.says("10 the tick at which it left (as for faults; NONE if it has not)");
        for (int ticks = 0; ticks <= 12; ticks++) {
            w.due("after " + ticks, after[ticks].board(0, 10), ticks == 12 ? 11 : NONE);
        }
        w.due("a fault of one that left in the same tick", cold.board(0, 10), cold.fault(0, 3, 1));
        w.due("one that was taken off", four().board(2, 10), NONE);
        w.says("Returns the value;");
        int[] told = {2, 3, 0, 4, 73, 28, 73, 0, 0, 0, NONE};
        for (int what = 0; what <= 10; what++) {
            w.due("of a board after two ticks, " + what, LOADED.make().board(0, what), told[what]);
        }
        w.says("INVALID_ARGUMENT if there is no such board or what is out of range.");
        w.refuses(FRESH, "no board yet", INVALID, y -> y.board(0, 0));
        w.outside(LOADED, "board(0, ..)", 0, 10, (y, v) -> y.board(0, v));
        w.refuses(LOADED, "both", INVALID, y -> y.board(1, 11));
    }

    private static void tells(Walk w, BeggingBoards[] after, int what, int[] due) {
        for (int ticks = 0; ticks < due.length; ticks++) {
            w.due("after " + ticks, after[ticks].board(0, what), due[ticks]);
        }
    }

    // ---- promises 18 to 20

    /** Of the weight 1, with faults of all kinds but the last, after 10 ticks. */
    private static BeggingBoards faulty() {
        BeggingBoards x = steady();
        x.pass(10);
        x.setCurve(1, 2, 5);
        x.setCurve(1, 3, 2);
        x.setCurve(1, 5, 225);
        x.load(1, 1);
        x.pass(12);
        return x;
    }

    private static void fault(Walk w) {
        w.heading("## Promise 18: fault");
        w.says("`int fault(int board, int kind, int what)`: Tells where a board had a fault of a kind first.");
        int[] cells = {2, 16, 16, 24, NONE};
        int[] ticks = {10, 17, 17, 21, NONE};
        BeggingBoards x = faulty();
        for (int kind = 0; kind < 5; kind++) {
            w.due("the cell of the kind " + kind, x.fault(0, kind, 0), cells[kind]);
            w.due("the tick of the kind " + kind, x.fault(0, kind, 1), ticks[kind]);
        }
        w.says("- `board`: a board");
        w.outside(LOADED, "fault(.., 0, 0)", 0, 0, (y, v) -> y.fault(v, 0, 0));
        w.outside(Scenes.FULL, "fault(.., 4, 1)", 0, 29, (y, v) -> y.fault(v, 4, 1));
        w.says("- `kind`: 0 to 4");
        w.outside(LOADED, "fault(0, .., 0)", 0, 4, (y, v) -> y.fault(0, v, 0));
        w.outside(LOADED, "fault(0, .., 1)", 0, 4, (y, v) -> y.fault(0, v, 1));
        w.says("- `what`: 0 for the cell, 1 for the tick");
        w.outside(LOADED, "fault(0, 0, ..)", 0, 1, (y, v) -> y.fault(0, 0, v));
        w.says("Returns the value;");
        BeggingBoards two = Scenes.flat(120).make();
        for (int board = 0; board < 2; board++) {
            two.set(0, 3 - board);
            two.load(0, 1);
            two.pass(1);
        }
        w.due("of the first", two.fault(0, 0, 0) * 10 + two.fault(0, 0, 1), 30);
        w.due("of the second", two.fault(1, 0, 0) * 10 + two.fault(1, 0, 1), 21);
        w.says("INVALID_ARGUMENT if an argument is out of range;");
        w.refuses(LOADED, "all of them", INVALID, y -> y.fault(1, 5, 2));
        w.refuses(FRESH, "no board yet", INVALID, y -> y.fault(0, 0, 0));
        w.says("NONE if it has no such fault.");
        for (int kind = 0; kind < 5; kind++) {
            w.due("the cell of the kind " + kind, LOADED.make().fault(0, kind, 0), NONE);
            w.due("the tick of the kind " + kind, LOADED.make().fault(0, kind, 1), NONE);
        }
    }

    /** Each board is too steep in its first tick, in the cell that its speed tells. */
    private static BeggingBoards steepAt(int... speeds) {
        BeggingBoards x = Scenes.flat(300).make();
        x.set(1, 1);
        for (int speed : speeds) {
            x.set(0, speed);
            x.load(0, 1);
            x.pass(1);
        }
        return x;
    }

    private static void worstCell(Walk w) {
        w.heading("## Promise 19: worstCell");
        w.says("`int worstCell(int kind, int what)`: Finds the cell in which most boards had a fault of a kind first,");
        w.due("one", steepAt(2).worstCell(0, 0), 2);
        w.due("two against one", steepAt(1, 3, 3).worstCell(0, 0), 3);
        w.due("the length of the belt", faulty().worstCell(3, 0), 24);
        BeggingBoards longest = Scenes.evenBelt(8, 3).make();
        longest.load(0, 1);
        longest.pass(16);
        w.due("the length of the longest belt", longest.worstCell(4, 0), 48);
        w.says("of several the smallest.");
        w.due("one and one", steepAt(3, 2).worstCell(0, 0), 2);
        w.due("two and two, and one", steepAt(3, 2, 3, 1, 2).worstCell(0, 0), 2);
        w.says("- `kind`: 0 to 4");
        int[] cells = {2, 16, 16, 24, NONE};
        for (int kind = 0; kind < 5; kind++) {
            w.due("the kind " + kind, faulty().worstCell(kind, 0), cells[kind]);
        }
        w.outside(LOADED, "worstCell(.., 0)", 0, 4, (y, v) -> y.worstCell(v, 0));
        w.outside(LOADED, "worstCell(.., 1)", 0, 4, (y, v) -> y.worstCell(v, 1));
        w.says("- `what`: 0 for the cell, 1 for the number of boards");
        w.due("of two and one", steepAt(1, 3, 3).worstCell(0, 1), 2);
        w.due("of two and two, and one", steepAt(3, 2, 3, 1, 2).worstCell(0, 1), 2);
        w.outside(LOADED, "worstCell(0, ..)", 0, 1, (y, v) -> y.worstCell(0, v));
        w.says("Returns the value;");
        BeggingBoards off = steepAt(3, 3, 1);
        off.takeOff(0);
        off.pass(30);
        w.due("of boards that are on the belt no more", off.worstCell(0, 0) * 10 + off.worstCell(0, 1), 32);
        w.says("INVALID_ARGUMENT if an argument is out of range;");
        w.refuses(FRESH, "both", INVALID, y -> y.worstCell(5, 2));
        w.says("NONE if there is no such fault (0 for 1).");
        for (int kind = 0; kind < 5; kind++) {
            w.due("no board, the cell of the kind " + kind, new BeggingBoards().worstCell(kind, 0), NONE);
            w.due("no board, the boards of the kind " + kind, new BeggingBoards().worstCell(kind, 1), 0);
        }
        w.due("other kinds alone", steepAt(1).worstCell(3, 0), NONE);
        w.due("other kinds alone", steepAt(1).worstCell(3, 1), 0);
    }

    private static void faultCells(Walk w) {
        w.heading("## Promise 20: faultCells");
        w.says("`int faultCells()`: Counts the cells in which some board had a fault of any kind first.");
        w.due("no board", new BeggingBoards().faultCells(), 0);
        w.due("no fault", LOADED.make().faultCells(), 0);
        // 160, 230 and 265 degrees: too hot in the third tick, in the cell 2 + 3.
        BeggingBoards two = steepAt(1);
        two.set(0, 2);
        two.pass(1);
        w.due("too steep alone", two.faultCells(), 1);
        two.pass(1);
        w.due("and too hot, elsewhere", two.faultCells(), 2);
        w.says("Returns the number of different cells.");
        w.due("four kinds in three cells", faulty().faultCells(), 3);
        w.due("two boards in one cell", steepAt(3, 3).faultCells(), 1);
        w.due("two boards in two cells", steepAt(3, 1).faultCells(), 2);
        BeggingBoards cold = Scenes.flat(20).make();
        cold.load(0, 1);
        cold.pass(12);
        w.due("two kinds at the end", cold.faultCells(), 1);
    }

    // ---- promises 21 to 24

    private static void foretell(Walk w) {
        w.heading("## Promise 21: foretell");
        w.says("`int foretell(int board, int what)`: Tells how a board on the belt will end, if only ticks pass.");
        for (int board = 0; board < Scenes.BUSY.make().count(1); board++) {
            if (Scenes.BUSY.make().board(board, 2) == 0) {
                comesTrue(w, board);
            }
        }
        w.says("- `board`: a board");
        w.outside(LOADED, "foretell(.., 0)", 0, 0, (x, v) -> x.foretell(v, 0));
        w.says("- `what`: 0 for the set of kinds of its faults then,");
        foretells(w, 0, 0, 1);
        w.says("1 for its peak,");
        foretells(w, 1, 200, 228);
        w.says("2 for the number of ticks until it leaves,");
        foretells(w, 2, 10, 12);
        w.says("3 for its degrees when it leaves");
        foretells(w, 3, 139, 102);
        w.says("Returns the value;");
        BeggingBoards x = steady();
        x.load(0, 3);
        for (int left = 12; left > 0; left--) {
            w.due("the ticks that are left", x.foretell(0, 2), left);
            w.due("the same peak all the time", x.foretell(0, 1), 200);
            x.pass(1);
        }
        w.says("INVALID_ARGUMENT if there is no such board or what is out of range;");
        w.refuses(FRESH, "no board yet", INVALID, y -> y.foretell(0, 0));
        w.outside(LOADED, "foretell(0, ..)", 0, 3, (y, v) -> y.foretell(0, v));
        w.refuses(Scenes.EMPTIED, "a wrong what, of one that has left", INVALID, y -> y.foretell(0, 4));
        w.says("ILLEGAL_STATE if it is not on the belt.");
        for (int what = 0; what < 4; what++) {
            int number = what;
            w.refuses(LOADED.then("taken off", y -> y.takeOff(0)), "foretell", ILLEGAL, y -> y.foretell(0, number));
            w.refuses(LOADED.then("it has left", y -> y.pass(10)), "foretell", ILLEGAL, y -> y.foretell(0, number));
        }
    }

    private static void comesTrue(Walk w, int board) {
        BeggingBoards x = Scenes.BUSY.make();
        int[] told = new int[4];
        for (int what = 0; what < 4; what++) {
            told[what] = x.foretell(board, what);
        }
        x.pass(told[2]);
        w.due("the kinds", x.board(board, 8), told[0]);
        w.due("the peak", x.board(board, 6), told[1]);
        w.due("the tick", x.board(board, 10), x.count(0) - 1);
        w.due("the degrees", x.board(board, 4), told[3]);
    }

    /** A board of the weight 3 two ticks ago, and one of the weight 1 now. */
    private static void foretells(Walk w, int what, int ofFirst, int ofSecond) {
        BeggingBoards x = steady();
        x.load(0, 3);
        x.pass(2);
        x.load(0, 1);
        w.due("of the weight 3", x.foretell(0, what), ofFirst);
        w.due("of the weight 1", x.foretell(1, what), ofSecond);
    }

    private static void wouldFail(Walk w) {
        w.heading("## Promise 22: wouldFail");
        w.says("`int wouldFail(int curve, int weight, int speed)`: Tells which faults a board would have at the end,");
        BeggingBoards x = new BeggingBoards();
        int[] kinds = {1, 0, 0, 24};
        for (int weight = 1; weight <= 4; weight++) {
            w.due("the weight " + weight, x.wouldFail(0, weight, 2), kinds[weight - 1]);
        }
        w.says("if it was loaded now (whether it can be or not),");
        w.refuses(LOADED.then("the gap 9", y -> y.set(1, 9)), "load(0, 3)", ILLEGAL, y -> y.load(0, 3));
        w.due("with a board in the gap", LOADED.then("the gap 9", y -> y.set(1, 9)).make().wouldFail(0, 3, 2), 0);
        w.refuses(Scenes.FULL, "load(0, 3)", FULL, y -> y.load(0, 3));
        w.due("with 30 boards", Scenes.FULL.then("no drop, no pleas", y -> {
            y.set(2, 0);
            y.set(3, 0);
            y.pass(99);
        }).make().wouldFail(0, 3, 2), 0);
        w.says("and only ticks passed.");
        BeggingBoards busy = Scenes.BUSY.then("none in the gap", y -> y.pass(9)).make();
        for (int weight = 1; weight <= 9; weight++) {
            BeggingBoards same = Scenes.BUSY.then("none in the gap", y -> y.pass(9)).make();
            int number = same.load(2, weight);
            same.pass(48);
            w.due("as it turns out for the weight " + weight, busy.wouldFail(2, weight, 0), same.board(number, 8));
        }
        w.says("- `curve`: 0 to 3");
        BeggingBoards other = new BeggingBoards();
        other.setCurve(3, 0, 27);
        w.due("a rise of 28 by the curve 3", other.wouldFail(3, 3, 2), 1);
        w.due("and by the curve 2", other.wouldFail(2, 3, 2), 0);
        w.outside(LOADED, "wouldFail(.., 1, 0)", 0, 3, (y, v) -> y.wouldFail(v, 1, 0));
        w.says("- `weight`: 1 to 9");
        w.outside(LOADED, "wouldFail(0, .., 0)", 1, 9, (y, v) -> y.wouldFail(0, v, 0));
        w.says("- `speed`: 1 to 3 for the speed then, pleas not being heard;");
        BeggingBoards begging = new BeggingBoards();
        begging.set(2, 3);
        begging.setCurve(0, 0, 27);
        int[] unheard = {2, 1, 25};
        for (int speed = 1; speed <= 3; speed++) {
            w.due("the speed " + speed, begging.wouldFail(0, 3, speed), unheard[speed - 1]);
        }
        w.says("0 for the speed and the bound as they are");
        // A rise of 28 in its second tick makes the speed 1; so it is above in 8 ticks.
        w.due("pleas are heard", begging.wouldFail(0, 3, 0), 3);
        begging.set(2, 0);
        w.due("the bound 0", begging.wouldFail(0, 3, 0), 1);
        begging.set(0, 3);
        w.due("the bound 0, the speed 3", begging.wouldFail(0, 3, 0), 25);
        w.due("the belt is as it was", begging.count(7) * 10 + begging.count(9), 30);
        w.says("Returns the set of kinds;");
        w.due("the kinds 3 and 4", Scenes.flat(20).make().wouldFail(0, 9, 1), 24);
        w.says("INVALID_ARGUMENT if an argument is out of range.");
        w.outside(LOADED, "wouldFail(0, 1, ..)", 0, 3, (y, v) -> y.wouldFail(0, 1, v));
        w.refuses(LOADED, "all of them", INVALID, y -> y.wouldFail(4, 10, -1));
    }

    private static void heaviest(Walk w) {
        w.heading("## Promise 23: heaviest");
        w.says("`int heaviest(int curve)`: Finds the greatest weight of a board that would have no fault at the end,");
        BeggingBoards x = new BeggingBoards();
        w.due("of 2 and 3", x.heaviest(0), 3);
        x.setCurve(0, 4, 201);
        w.due("the weight 3 has a peak of 200", x.heaviest(0), 2);
        x.setCurve(0, 4, 20);
        x.setCurve(0, 2, 0);
        w.due("all but the lightest", x.heaviest(0), 9);
        w.says("if it was loaded now (whether it can be or not),");
        x.load(0, 1);
        w.due("with a board in the gap", x.heaviest(0), 9);
        w.due("with 30 boards", Scenes.FULL.then("no drop, no pleas", y -> {
            y.set(2, 0);
            y.set(3, 0);
            y.set(0, 2);
            y.pass(99);
        }).make().heaviest(0), 3);
        w.says("and only ticks passed,");
        BeggingBoards steep = new BeggingBoards();
        steep.setCurve(0, 0, 35);
        w.due("a rise of 35 against 35", steep.heaviest(0), 3);
        steep.setCurve(0, 4, 216);
        w.due("a peak of 216 against 216", steep.heaviest(0), 2);
        steep.setCurve(0, 4, 217);
        w.due("a peak of 216 against 217", steep.heaviest(0), NONE);
        steep.setCurve(0, 0, 50);
        w.due("a rise of 50 against 50", steep.heaviest(0), 1);
        w.says("as wouldFail() tells it with the speed 0.");
        for (Scene scene : Scenes.ALL) {
            for (int curve = 0; curve < 4; curve++) {
                BeggingBoards y = scene.make();
                int due = NONE;
                for (int weight = 1; weight <= 9; weight++) {
                    due = y.wouldFail(curve, weight, 0) == 0 ? weight : due;
                }
                w.due(scene.name + ", the curve " + curve, y.heaviest(curve), due);
            }
        }
        w.says("- `curve`: 0 to 3");
        w.outside(LOADED, "heaviest(..)", 0, 3, BeggingBoards::heaviest);
        w.says("Returns the weight;");
        for (int curve = 0; curve < 4; curve++) {
            w.due("the curve " + curve, new BeggingBoards().heaviest(curve), 3);
        }
        w.says("INVALID_ARGUMENT if curve is out of range;");
        w.refuses(Scenes.FULL, "heaviest(4)", INVALID, y -> y.heaviest(4));
        w.says("NONE if there is none.");
        w.due("no zone is warm", Scenes.flat(20).make().heaviest(0), NONE);
        // Of the weight 1 it has 60, 80, 90, 95, 97, 98 and 99 degrees; only without a weight it would have 100.
        BeggingBoards light = Scenes.flat(100).make();
        light.setCurve(0, 0, 99);
        light.setCurve(0, 2, 0);
        light.setCurve(0, 4, 99);
        w.due("a peak of 99 against 99", light.heaviest(0), 1);
        light.setCurve(0, 4, 100);
        w.due("a peak of 99 against 100", light.heaviest(0), NONE);
    }

    private static void room(Walk w) {
        w.heading("## Promise 24: room");
        w.says("`int room()`: Tells in how many ticks a board can be loaded, if only ticks pass.");
        int[] ticks = {7, 4, 3};
        for (int speed = 1; speed <= 3; speed++) {
            BeggingBoards x = steady();
            x.set(1, 7);
            x.set(0, speed);
            x.load(0, 1);
            w.due("the gap 7 at the speed " + speed, x.room(), ticks[speed - 1]);
            x.pass(ticks[speed - 1] - 1);
            w.due("not before", x.load(0, 1), ILLEGAL);
            x.pass(1);
            w.due("but then", x.load(0, 1), 1);
        }
        w.says("Returns the number of ticks, 0 if it can be now");
        w.due("an empty belt", new BeggingBoards().room(), 0);
        BeggingBoards y = LOADED.make();
        w.due("in cell 4, the gap 3", y.room(), 0);
        y.set(1, 5);
        w.due("in cell 4, the gap 5", y.room(), 1);
        y.takeOff(0);
        w.due("it was taken off", y.room(), 0);
        w.says("(the number of boards loaded is of no matter).");
        w.refuses(Scenes.FULL, "load(0, 1)", FULL, x -> x.load(0, 1));
        w.due("with 30 boards", Scenes.FULL.make().room(), 0);
        w.due("with 30 boards, one of them at cell 0", Scenes.thirtyInARow().make().room(), 1);
    }

    private static void notPromised(Walk w) {
        w.heading("## Not promised How the state is held inside the object is free, as are the speed of each call,"
                + " the text of toString and the behaviour of equals and hashCode.");
        w.heading("Use of one object from several threads at once is not promised to be safe.");
        w.heading("Nothing is promised beyond the answers and state changes described above,"
                + " and nothing about an object after its 512th call.");
    }
}
