import java.io.IOException;
import java.lang.reflect.Method;
import java.lang.reflect.Modifier;

/** The terms of the document up to a tick: the oven, the curves, the boards. */
public final class WalkOfTermsTest {
    private static final int FULL = BeggingBoards.CAPACITY_EXCEEDED;
    private static final int NONE = BeggingBoards.NONE;
    private static final int SLOWER = 1;
    private static final Scene FRESH = Scenes.FRESH;

    private WalkOfTermsTest() {
    }

    public static void main(String[] args) throws IOException {
        Walk w = new Walk("WalkOfTermsTest", Walk.TERMS, Walk.TICKS);
        w.heading("## Terms");
        numbers(w);
        zones(w);
        belt(w);
        curves(w);
        boards(w);
        w.end();
    }

    private static void numbers(Walk w) {
        w.says("All numbers are whole.");
        for (Method method : BeggingBoards.class.getDeclaredMethods()) {
            if (Modifier.isPublic(method.getModifiers())) {
                w.holds(method.getName() + " answers an int", method.getReturnType() == int.class);
            }
        }
        w.says("Where something is divided, the result is rounded toward 0.");
        BeggingBoards x = Scenes.flatBelt(100, 1);
        x.setZone(1, 4, 20, 5);
        x.load(0, 8);
        x.pass(3);
        // 80 / 9, 72 / 9, 64 / 9
        w.due("8, 8 and 7", x.board(0, 4), 43);
        x.pass(1);
        w.due("-23 / 9", x.board(0, 5), -2);
        w.due("-23 / 9 degrees more", x.board(0, 4), 41);
        BeggingBoards y = new BeggingBoards();
        y.set(3, 2);
        y.setZone(0, 4, 120, 1);
        y.load(0, 7);
        y.pass(1);
        w.due("14 / 5 less, and 1", y.zone(0, 3), 119);
    }

    private static void zones(Walk w) {
        w.heading("### Oven");
        w.says("The oven has 6 zones, 0 to 5, one behind another.");
        BeggingBoards x = new BeggingBoards();
        x.set(0, 1);
        x.load(0, 1);
        for (int tick = 1; tick <= 23; tick++) {
            x.pass(1);
            for (int zone = 0; zone < 6; zone++) {
                int due = tick / 4 == zone ? 1 : 0;
                w.due("boards in the zone " + zone + " after " + tick + " ticks", x.zone(zone, 5), due);
            }
        }
        w.outside(FRESH, "zone(.., 0)", 0, 5, (y, v) -> y.zone(v, 0));
        w.says("A zone has a length of 2 to 8 cells (at first 4),");
        rangeOfZone(w, 0, 2, 8, 4, (y, v) -> y.setZone(2, v, 100, 9));
        w.says("a target of 20 to 300 degrees,");
        rangeOfZone(w, 1, 20, 300, 180, (y, v) -> y.setZone(2, 4, v, 9));
        w.says("a power of 1 to 20 (at first 5),");
        rangeOfZone(w, 2, 1, 20, 5, (y, v) -> y.setZone(2, 4, 100, v));
        w.says("and a warmth, which is its target at first.");
        for (int zone = 0; zone < 6; zone++) {
            w.due("the warmth of the zone " + zone, x.zone(zone, 3), x.zone(zone, 1));
        }
        w.says("The targets are 120, 160, 180, 240, 230 and 60 at first.");
        int[] targets = {120, 160, 180, 240, 230, 60};
        for (int zone = 0; zone < 6; zone++) {
            w.due("the target of the zone " + zone, new BeggingBoards().zone(zone, 1), targets[zone]);
        }
        w.says("The cells of the belt are numbered from 0 through all zones;");
        BeggingBoards z = new BeggingBoards();
        z.setZone(0, 2, 120, 5);
        z.setZone(1, 8, 120, 5);
        int[] cells = {0, 2, 10, 14, 18, 22};
        for (int zone = 0; zone < 6; zone++) {
            w.due("the first cell of the zone " + zone, z.zone(zone, 4), cells[zone]);
        }
        z.load(0, 1);
        z.pass(5);
        w.due("a board in cell 10 is in zone 2", z.board(0, 3) * 10 + z.zone(2, 5), 101);
        w.says("its length is that of all zones together.");
        w.due("2 and 8 and four times 4", z.count(6), 26);
        w.due("six times 4", new BeggingBoards().count(6), 24);
    }

    private static void rangeOfZone(Walk w, int what, int least, int most, int first, Walk.CallWith it) {
        BeggingBoards x = new BeggingBoards();
        w.due("at first", x.zone(2, what), first);
        w.holds("the least is allowed", it.on(x, least) > 0);
        w.due("the least", x.zone(2, what), least);
        w.holds("the most is allowed", it.on(x, most) > 0);
        w.due("the most", x.zone(2, what), most);
        w.outside(FRESH, "setZone", least, most, it);
    }

    private static void belt(Walk w) {
        w.says("The belt has a speed of 1 to 3 cells a tick (at first 2),");
        rangeOfBelt(w, 0, 1, 3, 2);
        for (int speed = 1; speed <= 3; speed++) {
            BeggingBoards x = Scenes.flatBelt(20, speed);
            x.load(0, 1);
            x.pass(5);
            w.due("the cell after five ticks", x.board(0, 3), 5 * speed);
        }
        w.says("a gap of 1 to 20 cells (at first 3),");
        rangeOfBelt(w, 1, 1, 20, 3);
        w.says("a bound for pleas of 0 to 99 (at first 6;");
        rangeOfBelt(w, 2, 0, 99, 6);
        w.says("0: pleas are not heard),");
        for (int bound = 0; bound <= 1; bound++) {
            BeggingBoards x = Scenes.flatBelt(300, 2);
            x.set(2, bound);
            x.load(0, 1);
            x.pass(1);
            w.due("it pleads with the bound " + bound, x.board(0, 9), SLOWER);
            w.due("the speed with the bound " + bound, x.count(7), 2 - bound);
        }
        w.says("and a drop of 0 to 9 (at first 1).");
        rangeOfBelt(w, 3, 0, 9, 1);
    }

    private static void rangeOfBelt(Walk w, int what, int least, int most, int first) {
        BeggingBoards x = new BeggingBoards();
        w.due("at first", x.count(7 + what), first);
        w.due("set to the least", x.set(what, least), first);
        w.due("set to the most", x.set(what, most), least);
        w.due("the most", x.count(7 + what), most);
        w.outside(FRESH, "set", least, most, (y, v) -> y.set(what, v));
    }

    private static void curves(Walk w) {
        w.heading("### Curves");
        w.says("There are 4 curves, 0 to 3.");
        BeggingBoards x = new BeggingBoards();
        for (int curve = 0; curve < 4; curve++) {
            x.setCurve(curve, 0, 11 * (curve + 1));
        }
        for (int curve = 0; curve < 4; curve++) {
            w.due("each has its own", x.curve(curve, 0), 11 * (curve + 1));
        }
        w.outside(FRESH, "curve(.., 0)", 0, 3, (y, v) -> y.curve(v, 0));
        w.says("A curve has 6 numbers:");
        w.outside(FRESH, "curve(0, ..)", 0, 5, (y, v) -> y.curve(0, v));
        w.says("0 the steepest rise (1 to 99; at first 40),");
        rangeOfCurve(w, 0, 1, 99, 40);
        w.says("1 the melting point (20 to 300; at first 180),");
        rangeOfCurve(w, 1, 20, 300, 180);
        w.says("2 the fewest ticks (0 to 99; at first 2)");
        rangeOfCurve(w, 2, 0, 99, 2);
        w.says("and 3 the most ticks (0 to 99; at first 6) above it,");
        rangeOfCurve(w, 3, 0, 99, 6);
        w.says("4 the lowest peak (20 to 300; at first 190)");
        rangeOfCurve(w, 4, 20, 300, 190);
        w.says("and 5 the highest peak (20 to 300; at first 240).");
        rangeOfCurve(w, 5, 20, 300, 240);
    }

    private static void rangeOfCurve(Walk w, int what, int least, int most, int first) {
        for (int curve = 0; curve < 4; curve++) {
            BeggingBoards x = new BeggingBoards();
            w.due("set to the least", x.setCurve(curve, what, least), first);
            w.due("set to the most", x.setCurve(curve, what, most), least);
            w.due("the most", x.curve(curve, what), most);
            w.due("of the next curve", x.curve((curve + 1) % 4, what), first);
        }
        w.outside(FRESH, "setCurve", least, most, (y, v) -> y.setCurve(3, what, v));
    }

    private static void boards(Walk w) {
        w.heading("### Boards");
        w.says("There are at most 30 boards,");
        BeggingBoards x = Scenes.flatBelt(20, 1);
        for (int board = 0; board < 30; board++) {
            w.due("loaded", x.load(board % 4, 1 + board % 9), board);
            x.pass(1);
        }
        w.due("one more", x.load(0, 1), FULL);
        w.due("boards", x.count(1), 30);
        w.says("numbered from 0 in the order in which they were loaded.");
        for (int board = 0; board < 30; board++) {
            int left = board < 7 ? 1 : 0;
            w.due("the state of " + board, x.board(board, 2), left);
            w.due("the cell of " + board, x.board(board, 3), left == 1 ? NONE : 30 - board);
        }
        w.says("A board has a curve and a weight (1 to 9).");
        for (int board = 0; board < 30; board++) {
            w.due("the curve of " + board, x.board(board, 0), board % 4);
            w.due("the weight of " + board, x.board(board, 1), 1 + board % 9);
        }
        w.outside(FRESH, "load(0, ..)", 1, 9, (y, v) -> y.load(0, v));
        w.says("It is on the belt, at a cell, or it has left at the end, or it was taken off.");
        BeggingBoards z = Scenes.flatBelt(20, 3);
        for (int board = 0; board < 3; board++) {
            z.load(0, 1);
            z.pass(3);
        }
        z.takeOff(1);
        int[] states = {1, 2, 0};
        int[] cells = {NONE, NONE, 9};
        for (int board = 0; board < 3; board++) {
            w.due("the state of " + board, z.board(board, 2), states[board]);
            w.due("the cell of " + board, z.board(board, 3), cells[board]);
        }
        w.due("one each", z.count(2) * 100 + z.count(3) * 10 + z.count(5), 111);
        w.says("It has 20 degrees, and a peak of 20 degrees, when it is loaded, at cell 0.");
        z.load(3, 9);
        w.due("degrees", z.board(3, 4), 20);
        w.due("peak", z.board(3, 6), 20);
        w.due("cell", z.board(3, 3), 0);
    }
}
