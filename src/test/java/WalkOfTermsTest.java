import java.io.IOException;
import java.lang.reflect.Field;
import java.lang.reflect.Member;
import java.lang.reflect.Method;
import java.lang.reflect.Modifier;
import java.nio.file.Files;
import java.nio.file.Path;
import java.util.ArrayList;
import java.util.List;
import java.util.Set;
import java.util.TreeSet;
import java.util.regex.Matcher;
import java.util.regex.Pattern;

/** The document from its first line up to promise 1: what it is, the public face, the terms. */
public final class WalkOfTermsTest {
    private static final int INVALID = BeggingBoards.INVALID_ARGUMENT;
    private static final int ILLEGAL = BeggingBoards.ILLEGAL_STATE;
    private static final int FULL = BeggingBoards.CAPACITY_EXCEEDED;
    private static final int NONE = BeggingBoards.NONE;
    private static final int SLOWER = 1;
    private static final int FASTER = 2;
    private static final Scene FRESH = Scenes.FRESH;
    private static final Path SOURCE = Path.of("src/main/java/BeggingBoards.java");
    private static final String[] CONSTANTS = {
        "public static final int INVALID_ARGUMENT = -1001;", "public static final int ILLEGAL_STATE = -1002;",
        "public static final int CAPACITY_EXCEEDED = -1003;", "public static final int NONE = -1009;"};
    private static final String[] METHODS = {
        "public int setZone(int zone, int length, int target, int power);",
        "public int setCurve(int curve, int what, int value);", "public int set(int what, int value);",
        "public int load(int curve, int weight);", "public int takeOff(int board);", "public int pass(int ticks);",
        "public int take(int slot);", "public int restore(int slot);", "public int undo();",
        "public int append(int character);", "public int clearText();", "public int carryOut();",
        "public int count(int what);", "public int zone(int zone, int what);", "public int curve(int curve, int what);",
        "public int board(int board, int what);", "public int fault(int board, int kind, int what);",
        "public int worstCell(int kind, int what);", "public int faultCells();",
        "public int foretell(int board, int what);", "public int wouldFail(int curve, int weight, int speed);",
        "public int heaviest(int curve);", "public int room();"};

    private WalkOfTermsTest() {
    }

    public static void main(String[] args) throws IOException {
        Walk w = new Walk("WalkOfTermsTest", Walk.START, Walk.PROMISES);
        w.heading("# BeggingBoards ## What it is");
        boardsThatBeg(w);
        whatElseItIs(w);
        calls(w);
        face(w);
        w.heading("## Terms");
        numbers(w);
        zones(w);
        belt(w);
        curves(w);
        boards(w);
        w.heading("### A tick");
        stepsOneAndTwo(w);
        stepThree(w);
        stepFour(w);
        w.heading("### Faults A board has a fault");
        kindsOfFaults(w);
        whereFaultsWere(w);
        text(w);
        snapshots(w);
        undo(w);
        errors(w);
        constants(w);
        interfaceParts(w);
        w.end();
    }

    /** All zones at one target, the gap 1; boards change neither the zones nor the speed, and plead as they are told. */
    private static BeggingBoards flat(int target, int speed) {
        BeggingBoards x = Scenes.flat(target).make();
        x.set(0, speed);
        x.set(1, 1);
        return x;
    }

    // ---- what it is

    private static void boardsThatBeg(Walk w) {
        w.says("An oven with a belt for boards that beg for a slower ride:");
        BeggingBoards x = new BeggingBoards();
        x.setCurve(0, 0, 1);
        x.load(0, 9);
        x.pass(1);
        w.due("it begs", x.board(0, 9), SLOWER);
        w.due("and rides slower", x.count(7), 1);
        w.says("zones with heaters, boards by their weights that cool the zones and warm up slowly,");
        int[] weights = {1, 9};
        int[] warmths = {120, 109};
        int[] degrees = {70, 28};
        for (int i = 0; i < 2; i++) {
            BeggingBoards y = new BeggingBoards();
            y.set(3, 9);
            y.load(0, weights[i]);
            y.pass(1);
            // 9 * 1 / 5 is 1 and 9 * 9 / 5 is 16; the heater brings 5 back.
            w.due("the zone with the weight " + weights[i], y.zone(0, 3), warmths[i]);
            w.due("the degrees by the weight " + weights[i], y.board(0, 4), degrees[i]);
            y.takeOff(0);
            y.pass(3);
            w.due("the heater without the weight " + weights[i], y.zone(0, 3), 120);
        }
    }

    private static void whatElseItIs(Walk w) {
        w.says("curves with a steepest rise, ticks above a melting point and a peak,");
        BeggingBoards x = new BeggingBoards();
        x.setCurve(0, 0, 77);
        x.setCurve(0, 1, 222);
        x.setCurve(0, 4, 111);
        w.due("the steepest rise", x.curve(0, 0), 77);
        w.due("the melting point", x.curve(0, 1), 222);
        w.due("the lowest peak", x.curve(0, 4), 111);
        w.says("pleas by which the belt changes its speed, gaps,");
        x.set(2, 1);
        x.setCurve(0, 0, 1);
        x.load(0, 1);
        w.due("the gap", x.load(0, 1), ILLEGAL);
        x.pass(1);
        w.due("the speed", x.count(7), 1);
        w.due("by pleas", x.count(11), 1);
        w.says("faults that are told with where they were first, judgement at the end, forecasts,");
        BeggingBoards y = flat(100, 2);
        y.load(0, 9);
        w.due("the forecast", y.foretell(0, 0), 24);
        y.pass(11);
        w.due("no fault yet", y.board(0, 8), 0);
        y.pass(1);
        w.due("the judgement", y.board(0, 8), 24);
        w.due("where it was", y.fault(0, 4, 0), 24);
        w.says("the best speed for a board,");
        // By the speed 1 it is above in 9 ticks, by 2 in 2 of them, by 3 in none.
        int[] kinds = {2, 0, 24};
        for (int speed = 1; speed <= 3; speed++) {
            w.due("the speed " + speed + " for the weight 3", new BeggingBoards().wouldFail(0, 3, speed), kinds[speed - 1]);
        }
        w.says("orders that are read from a text, snapshots and undo.");
        BeggingBoards z = new BeggingBoards();
        Scenes.write(z, "l0,3;p12");
        w.due("the orders", z.carryOut(), 2);
        w.due("the snapshot", z.take(0), 12);
        w.due("undo", z.undo() + z.undo(), 1);
        w.due("no tick has passed", z.count(0), 0);
    }

    private static void calls(Walk w) {
        w.says("An object is used for at most 512 calls after it has been made;");
        BeggingBoards x = new BeggingBoards();
        for (int call = 1; call <= 509; call++) {
            int before = (call - 1) % 20 + 1;
            w.due("call " + call, x.set(1, call % 20 + 1), call == 1 ? 3 : before);
        }
        w.due("call 510", x.load(0, 3), 0);
        w.due("call 511", x.pass(12), 1);
        w.due("call 512", x.board(0, 4), 139);
        w.says("what later calls answer is free.");
        for (int call = 513; call <= 1100; call++) {
            x.pass(99);
            x.load(call % 5, call % 11);
            x.append(call % 257);
            x.carryOut();
            x.undo();
        }
        w.holds("but no call throws (LANGUAGE.md, 7)", x.count(0) <= 5000);
    }

    private static void face(Walk w) {
        w.heading("## The public face ```java");
        w.says("public final class BeggingBoards {");
        w.due("public and final", BeggingBoards.class.getModifiers(), Modifier.PUBLIC | Modifier.FINAL);
        Set<String> members = new TreeSet<>();
        for (Field field : BeggingBoards.class.getDeclaredFields()) {
            if (isSeen(field)) {
                members.add(told(field));
            }
        }
        for (Method method : BeggingBoards.class.getDeclaredMethods()) {
            if (isSeen(method)) {
                members.add(told(method));
            }
        }
        for (String constant : CONSTANTS) {
            w.says(constant);
            w.holds("it is there", members.remove(constant));
        }
        w.says("public BeggingBoards();");
        w.due("constructors", BeggingBoards.class.getDeclaredConstructors().length, 1);
        w.due("public ones without parameters", BeggingBoards.class.getConstructors()[0].getParameterCount(), 0);
        for (String method : METHODS) {
            w.says(method);
            w.holds("it is there", members.remove(method.replaceAll("int \\w+([,)])", "int$1")));
        }
        w.says("} ```");
        w.holds("nothing else can be seen: " + members, members.isEmpty());
    }

    private static boolean isSeen(Member member) {
        return !Modifier.isPrivate(member.getModifiers());
    }

    private static String told(Field field) {
        try {
            return Modifier.toString(field.getModifiers()) + " " + field.getType() + " " + field.getName() + " = "
                    + field.get(null) + ";";
        } catch (IllegalAccessException e) {
            return field + ", which cannot be read";
        }
    }

    private static String told(Method method) {
        StringBuilder all = new StringBuilder(Modifier.toString(method.getModifiers()));
        all.append(' ').append(method.getReturnType()).append(' ').append(method.getName()).append('(');
        Class<?>[] types = method.getParameterTypes();
        for (int i = 0; i < types.length; i++) {
            all.append(i > 0 ? ", " : "").append(types[i]);
        }
        return all.append(");").toString();
    }

    // ---- oven, curves, boards

    private static void numbers(Walk w) {
        w.says("All numbers are whole.");
        for (Method method : BeggingBoards.class.getDeclaredMethods()) {
            if (isSeen(method)) {
                w.holds(method.getName() + " answers an int", method.getReturnType() == int.class);
            }
        }
        w.says("Where something is divided, the result is rounded toward 0.");
        BeggingBoards x = flat(100, 1);
        x.setZone(1, 4, 20, 5);
        x.load(0, 8);
        x.pass(3);
        // 80 / 9, 72 / 9, 64 / 9
        w.due("8, 8 and 7", x.board(0, 4), 43);
        x.pass(1);
        w.due("-23 / 9", x.board(0, 5), -2);
        w.due("-23 / 9 degrees more", x.board(0, 4), 41);
        BeggingBoards y = new BeggingBoards();
        y.set(3, 2);
        y.setZone(0, 4, 120, 1);
        y.load(0, 7);
        y.pass(1);
        w.due("14 / 5 less, and 1", y.zone(0, 3), 119);
    }

    private static void zones(Walk w) {
        w.heading("### Oven");
        w.says("The oven has 6 zones, 0 to 5, one behind another.");
        BeggingBoards x = new BeggingBoards();
        x.set(0, 1);
        x.load(0, 1);
        for (int tick = 1; tick <= 23; tick++) {
            x.pass(1);
            for (int zone = 0; zone < 6; zone++) {
                w.due("boards in the zone " + zone + " after " + tick + " ticks", x.zone(zone, 5), tick / 4 == zone ? 1 : 0);
            }
        }
        w.outside(FRESH, "zone(.., 0)", 0, 5, (y, v) -> y.zone(v, 0));
        w.says("A zone has a length of 2 to 8 cells (at first 4),");
        rangeOfZone(w, 0, 2, 8, 4, (y, v) -> y.setZone(2, v, 100, 9));
        w.says("a target of 20 to 300 degrees,");
        rangeOfZone(w, 1, 20, 300, 180, (y, v) -> y.setZone(2, 4, v, 9));
        w.says("a power of 1 to 20 (at first 5),");
        rangeOfZone(w, 2, 1, 20, 5, (y, v) -> y.setZone(2, 4, 100, v));
        w.says("and a warmth, which is its target at first.");
        for (int zone = 0; zone < 6; zone++) {
            w.due("the warmth of the zone " + zone, x.zone(zone, 3), x.zone(zone, 1));
        }
        w.says("The targets are 120, 160, 180, 240, 230 and 60 at first.");
        int[] targets = {120, 160, 180, 240, 230, 60};
        for (int zone = 0; zone < 6; zone++) {
            w.due("the target of the zone " + zone, new BeggingBoards().zone(zone, 1), targets[zone]);
        }
        w.says("The cells of the belt are numbered from 0 through all zones;");
        BeggingBoards z = new BeggingBoards();
        z.setZone(0, 2, 120, 5);
        z.setZone(1, 8, 120, 5);
        int[] cells = {0, 2, 10, 14, 18, 22};
        for (int zone = 0; zone < 6; zone++) {
            w.due("the first cell of the zone " + zone, z.zone(zone, 4), cells[zone]);
        }
        z.load(0, 1);
        z.pass(5);
        w.due("a board in cell 10 is in zone 2", z.board(0, 3) * 10 + z.zone(2, 5), 101);
        w.says("its length is that of all zones together.");
        w.due("2 and 8 and four times 4", z.count(6), 26);
        w.due("six times 4", new BeggingBoards().count(6), 24);
    }

    private static void rangeOfZone(Walk w, int what, int least, int most, int first, Walk.CallWith it) {
        BeggingBoards x = new BeggingBoards();
        w.due("at first", x.zone(2, what), first);
        w.holds("the least is allowed", it.on(x, least) > 0);
        w.due("the least", x.zone(2, what), least);
        w.holds("the most is allowed", it.on(x, most) > 0);
        w.due("the most", x.zone(2, what), most);
        w.outside(FRESH, "setZone", least, most, it);
    }

    private static void belt(Walk w) {
        w.says("The belt has a speed of 1 to 3 cells a tick (at first 2),");
        rangeOfBelt(w, 0, 1, 3, 2);
        for (int speed = 1; speed <= 3; speed++) {
            BeggingBoards x = flat(20, speed);
            x.load(0, 1);
            x.pass(5);
            w.due("the cell after five ticks", x.board(0, 3), 5 * speed);
        }
        w.says("a gap of 1 to 20 cells (at first 3),");
        rangeOfBelt(w, 1, 1, 20, 3);
        w.says("a bound for pleas of 0 to 99 (at first 6;");
        rangeOfBelt(w, 2, 0, 99, 6);
        w.says("0: pleas are not heard),");
        for (int bound = 0; bound <= 1; bound++) {
            BeggingBoards x = flat(300, 2);
            x.set(2, bound);
            x.load(0, 1);
            x.pass(1);
            w.due("it pleads with the bound " + bound, x.board(0, 9), SLOWER);
            w.due("the speed with the bound " + bound, x.count(7), 2 - bound);
        }
        w.says("and a drop of 0 to 9 (at first 1).");
        rangeOfBelt(w, 3, 0, 9, 1);
    }

    private static void rangeOfBelt(Walk w, int what, int least, int most, int first) {
        BeggingBoards x = new BeggingBoards();
        w.due("at first", x.count(7 + what), first);
        w.due("set to the least", x.set(what, least), first);
        w.due("set to the most", x.set(what, most), least);
        w.due("the most", x.count(7 + what), most);
        w.outside(FRESH, "set", least, most, (y, v) -> y.set(what, v));
    }

    private static void curves(Walk w) {
        w.heading("### Curves");
        w.says("There are 4 curves, 0 to 3.");
        BeggingBoards x = new BeggingBoards();
        for (int curve = 0; curve < 4; curve++) {
            x.setCurve(curve, 0, 11 * (curve + 1));
        }
        for (int curve = 0; curve < 4; curve++) {
            w.due("each has its own", x.curve(curve, 0), 11 * (curve + 1));
        }
        w.outside(FRESH, "curve(.., 0)", 0, 3, (y, v) -> y.curve(v, 0));
        w.says("A curve has 6 numbers:");
        w.outside(FRESH, "curve(0, ..)", 0, 5, (y, v) -> y.curve(0, v));
        w.says("0 the steepest rise (1 to 99; at first 40),");
        rangeOfCurve(w, 0, 1, 99, 40);
        w.says("1 the melting point (20 to 300; at first 180),");
        rangeOfCurve(w, 1, 20, 300, 180);
        w.says("2 the fewest ticks (0 to 99; at first 2)");
        rangeOfCurve(w, 2, 0, 99, 2);
        w.says("and 3 the most ticks (0 to 99; at first 6) above it,");
        rangeOfCurve(w, 3, 0, 99, 6);
        w.says("4 the lowest peak (20 to 300; at first 190)");
        rangeOfCurve(w, 4, 20, 300, 190);
        w.says("and 5 the highest peak (20 to 300; at first 240).");
        rangeOfCurve(w, 5, 20, 300, 240);
    }

    private static void rangeOfCurve(Walk w, int what, int least, int most, int first) {
        for (int curve = 0; curve < 4; curve++) {
            BeggingBoards x = new BeggingBoards();
            w.due("set to the least", x.setCurve(curve, what, least), first);
            w.due("set to the most", x.setCurve(curve, what, most), least);
            w.due("the most", x.curve(curve, what), most);
            w.due("of the next curve", x.curve((curve + 1) % 4, what), first);
        }
        w.outside(FRESH, "setCurve", least, most, (y, v) -> y.setCurve(3, what, v));
    }

    private static void boards(Walk w) {
        w.heading("### Boards");
        w.says("There are at most 30 boards,");
        BeggingBoards x = flat(20, 1);
        for (int board = 0; board < 30; board++) {
            w.due("loaded", x.load(board % 4, 1 + board % 9), board);
            x.pass(1);
        }
        w.due("one more", x.load(0, 1), FULL);
        w.due("boards", x.count(1), 30);
        w.says("numbered from 0 in the order in which they were loaded.");
        for (int board = 0; board < 30; board++) {
            int left = board < 7 ? 1 : 0;
            w.due("the state of " + board, x.board(board, 2), left);
            w.due("the cell of " + board, x.board(board, 3), left == 1 ? NONE : 30 - board);
        }
        w.says("A board has a curve and a weight (1 to 9).");
        for (int board = 0; board < 30; board++) {
            w.due("the curve of " + board, x.board(board, 0), board % 4);
            w.due("the weight of " + board, x.board(board, 1), 1 + board % 9);
        }
        w.outside(FRESH, "load(0, ..)", 1, 9, (y, v) -> y.load(0, v));
        w.says("It is on the belt, at a cell, or it has left at the end, or it was taken off.");
        BeggingBoards z = flat(20, 3);
        for (int board = 0; board < 3; board++) {
            z.load(0, 1);
            z.pass(3);
        }
        z.takeOff(1);
        int[] states = {1, 2, 0};
        int[] cells = {NONE, NONE, 9};
        for (int board = 0; board < 3; board++) {
            w.due("the state of " + board, z.board(board, 2), states[board]);
            w.due("the cell of " + board, z.board(board, 3), cells[board]);
        }
        w.due("one each", z.count(2) * 100 + z.count(3) * 10 + z.count(5), 111);
        w.says("It has 20 degrees, and a peak of 20 degrees, when it is loaded, at cell 0.");
        z.load(3, 9);
        w.due("degrees", z.board(3, 4), 20);
        w.due("peak", z.board(3, 6), 20);
        w.due("cell", z.board(3, 3), 0);
    }

    // ---- a tick

    private static void stepsOneAndTwo(Walk w) {
        w.says("1. Each board on the belt goes on by as many cells as the speed.");
        BeggingBoards x = flat(20, 3);
        x.load(0, 1);
        x.pass(1);
        x.set(0, 2);
        x.load(0, 2);
        x.pass(2);
        w.due("both go on", x.board(0, 3) * 100 + x.board(1, 3), 704);
        x.takeOff(0);
        x.pass(1);
        w.due("only the one on the belt", x.board(1, 3), 6);
        w.says("One that comes beyond the last cell has left.");
        int[] lastCells = {23, 22, 21};
        for (int speed = 1; speed <= 3; speed++) {
            BeggingBoards y = flat(20, speed);
            y.load(0, 1);
            y.pass(24 / speed - 1);
            w.due("the last cell it comes to", y.board(0, 3), lastCells[speed - 1]);
            w.due("it leaves", y.pass(1), 1);
            w.due("it has left", y.board(0, 2), 1);
        }
        w.says("2. Each zone loses drop times the weights of all boards in it together, divided by 5,");
        BeggingBoards z = flat(300, 1);
        z.setZone(0, 4, 300, 1);
        z.load(0, 4);
        z.pass(1);
        z.set(3, 7);
        z.load(0, 3);
        z.pass(1);
        w.due("7 * 7 / 5 less, and 1", z.zone(0, 3), 292);
        w.due("no other zone", z.zone(1, 3), 300);
        z.pass(2);
        // At the cells 3 and 2 it loses 9 and gains 1 again; then the first board comes to cell 4, before the zones lose.
        w.due("7 * 3 / 5 less, and 1", z.zone(0, 3), 284 - 4 + 1);
        w.due("7 * 4 / 5 less, and 5, in the zone that it came to", z.zone(1, 3), 300);
        w.says("but is at least 20 degrees warm;");
        w.due("30 less 16, but 20, and 3", warmthAfterATick(30, 3), 23);
        w.says("then it gains its power, up to its target, if it is below it,");
        w.due("100 less 16, and 3", warmthAfterATick(100, 3), 87);
        w.due("100 less 16, and 15", warmthAfterATick(100, 15), 99);
        w.due("100 less 16, and 17, up to 100", warmthAfterATick(100, 17), 100);
        w.says("or loses its power, down to its target, if it is above it.");
        BeggingBoards v = flat(300, 1);
        v.setZone(0, 4, 50, 20);
        v.pass(9);
        w.due("no zone comes above its target: by a lower target", v.zone(0, 3), 50);
        w.due("nor beside warmer ones", v.zone(1, 3), 300);
    }

    /** By a board of the weight 9 and the drop 9, which is a loss of 81 / 5, 16. */
    private static int warmthAfterATick(int target, int power) {
        BeggingBoards x = flat(target, 1);
        x.setZone(0, 4, target, power);
        x.set(3, 9);
        x.load(0, 9);
        x.pass(1);
        return x.zone(0, 3);
    }

    private static void stepThree(Walk w) {
        w.says("3. Each board on the belt becomes warmer by the warmth of its zone less its own degrees,"
                + " divided by its weight and 1 together.");
        int[] degrees = {70, 53, 45, 40, 36, 34, 32, 31, 30};
        for (int weight = 1; weight <= 9; weight++) {
            BeggingBoards x = flat(120, 1);
            x.load(0, weight);
            x.pass(1);
            w.due("100 divided by " + (weight + 1), x.board(0, 4), degrees[weight - 1]);
        }
        BeggingBoards cooled = new BeggingBoards();
        cooled.set(3, 9);
        cooled.load(0, 9);
        cooled.pass(1);
        w.due("by the warmth that the zone has in this tick, 109", cooled.board(0, 4), 28);
        w.says("This is its rise.");
        int[] rises = {50, 25, 12, 6, 3, 2, 1, 0, 0};
        BeggingBoards y = flat(120, 1);
        y.load(0, 1);
        w.due("none yet", y.board(0, 5), 0);
        for (int rise : rises) {
            y.pass(1);
            w.due("the rise", y.board(0, 5), rise);
        }
        w.says("Its peak is the greatest number of degrees that it ever had;");
        BeggingBoards z = new BeggingBoards();
        z.load(0, 3);
        int[] peaks = {45, 73, 94, 115, 131, 158, 178, 191, 200, 200, 200, 200};
        int[] above = {0, 0, 0, 0, 0, 0, 0, 1, 2, 2, 2, 2};
        for (int tick = 0; tick < 12; tick++) {
            z.pass(1);
            w.due("the peak", z.board(0, 6), peaks[tick]);
            w.due("the ticks above", z.board(0, 7), above[tick]);
        }
        w.due("the degrees", z.board(0, 4), 139);
        w.says("a tick is above if its degrees are above the melting point then.");
        BeggingBoards v = calm(120, 1, 95);
        int[] aboveThen = {0, 0, 1, 2};
        for (int ticks : aboveThen) {
            v.pass(1);
            w.due("70, 95, 107 and 113 degrees against 95", v.board(0, 7), ticks);
        }
        v.setCurve(2, 1, 20);
        w.due("by the melting point then", v.board(0, 7), 2);
    }

    /** A board of the weight 1 on the curve 2, at the speed 1, without pleas, with no fault but by what is set. */
    private static BeggingBoards calm(int target, int what, int value) {
        BeggingBoards x = flat(target, 1);
        int[] numbers = {99, 180, 0, 99, 20, 300};
        numbers[what] = value;
        for (int number = 0; number < 6; number++) {
            x.setCurve(2, number, numbers[number]);
        }
        x.load(2, 1);
        return x;
    }

    private static void stepFour(Walk w) {
        w.says("4. A board on the belt pleads for a slower ride if its rise is greater than the steepest one of its curve;");
        w.due("50 against 50", pleaAfter(calm(120, 0, 50), 1), 0);
        w.due("50 against 49", pleaAfter(calm(120, 0, 49), 1), SLOWER);
        w.due("25 against 49, in the next tick", pleaAfter(calm(120, 0, 49), 2), 0);
        w.says("otherwise it pleads for a faster ride if its ticks above are more than the most of its curve.");
        BeggingBoards x = calm(120, 1, 20);
        x.setCurve(2, 3, 1);
        w.due("1 against 1", pleaAfter(x, 1), 0);
        w.due("2 against 1", pleaAfter(x, 1), FASTER);
        x.setCurve(2, 0, 11);
        w.due("too steep as well", pleaAfter(x, 1), SLOWER);
        x.setCurve(2, 1, 300);
        w.due("no more above, but still more than the most", pleaAfter(x, 1), FASTER);
        w.says("If the bound is not 0:");
        w.due("the bound 0, and 9 for slower", speedAfterPleas(2, 0, 9, 0), 2);
        w.due("the bound 0, and 9 for faster", speedAfterPleas(2, 0, 0, 9), 2);
        w.due("the bound 0, and none", speedAfterPleas(2, 0, 0, 0), 2);
        w.due("the bound 1, and none", speedAfterPleas(2, 1, 0, 0), 2);
        w.says("if the weights of those who plead for a slower ride, less those of the others who plead,"
                + " are at least the bound, the speed becomes less by 1, but at least 1;");
        w.due("9 against 9", speedAfterPleas(2, 9, 9, 0), 1);
        w.due("9 against 10", speedAfterPleas(2, 10, 9, 0), 2);
        w.due("9 less 4 against 5", speedAfterPleas(2, 5, 9, 4), 1);
        w.due("9 less 5 against 5", speedAfterPleas(2, 5, 9, 5), 2);
        w.due("by 1", speedAfterPleas(3, 1, 9, 0), 2);
        w.due("at least 1", speedAfterPleas(1, 1, 9, 0), 1);
        w.says("if these, less those, are at least the bound, the speed becomes greater by 1, but at most 3.");
        w.due("9 against 9", speedAfterPleas(2, 9, 0, 9), 3);
        w.due("9 against 10", speedAfterPleas(2, 10, 0, 9), 2);
        w.due("9 less 4 against 5", speedAfterPleas(2, 5, 4, 9), 3);
        w.due("9 less 5 against 5", speedAfterPleas(2, 5, 5, 9), 2);
        w.due("as many for both", speedAfterPleas(2, 1, 7, 7), 2);
        w.due("by 1", speedAfterPleas(1, 1, 0, 9), 2);
        w.due("at most 3", speedAfterPleas(3, 1, 0, 9), 3);
        w.says("Then one tick more has passed.");
        BeggingBoards y = new BeggingBoards();
        for (int tick = 0; tick < 5; tick++) {
            w.due("ticks", y.count(0), tick);
            y.pass(1);
        }
        w.due("after all of them", y.count(0), 5);
    }

    private static int pleaAfter(BeggingBoards x, int ticks) {
        x.pass(ticks);
        return x.board(0, 9);
    }

    /** The speed after a tick in which boards of these weights plead for slower and for faster; 0 is no board. */
    private static int speedAfterPleas(int speed, int bound, int forSlower, int forFaster) {
        BeggingBoards x = flat(100, 2);
        x.setCurve(0, 0, 1);
        x.setCurve(1, 0, 99);
        x.setCurve(1, 1, 20);
        x.setCurve(1, 3, 0);
        x.load(0, forSlower);
        x.pass(1);
        x.load(1, forFaster);
        x.set(0, speed);
        x.set(2, bound);
        x.pass(1);
        return x.count(7);
    }

    // ---- faults

    private static void kindsOfFaults(Walk w) {
        w.says("of the kind 0 as soon as its rise is greater than the steepest one,");
        w.due("50 against 50", kindsAfter(calm(120, 0, 50), 24), 0);
        w.due("50 against 49", kindsAfter(calm(120, 0, 49), 1), 1);
        w.says("of the kind 1 as soon as its ticks above are more than the most,");
        BeggingBoards x = calm(120, 1, 20);
        x.setCurve(2, 3, 2);
        w.due("2 against 2", kindsAfter(x, 2), 0);
        w.due("3 against 2", kindsAfter(x, 1), 2);
        w.says("of the kind 2 as soon as its degrees are above the highest peak;");
        BeggingBoards y = calm(120, 5, 95);
        w.due("95 against 95", kindsAfter(y, 2), 0);
        w.due("107 against 95", kindsAfter(y, 1), 4);
        w.says("when it has left, of the kind 3 if its ticks above are less than the fewest,");
        for (int fewest = 23; fewest <= 24; fewest++) {
            BeggingBoards z = calm(120, 1, 20);
            z.setCurve(2, 2, fewest);
            w.due("on the belt", kindsAfter(z, 23), 0);
            w.due("23 against " + fewest, kindsAfter(z, 1), fewest == 24 ? 8 : 0);
        }
        w.says("and of the kind 4 if its peak is below the lowest one.");
        for (int lowest = 119; lowest <= 120; lowest++) {
            BeggingBoards z = calm(120, 4, lowest);
            w.due("on the belt", kindsAfter(z, 23), 0);
            w.due("119 against " + lowest, kindsAfter(z, 1), lowest == 120 ? 16 : 0);
        }
        w.says("(All this is looked at in ticks alone, by the curve as it is then.)");
        BeggingBoards z = calm(120, 0, 99);
        z.pass(1);
        z.setCurve(2, 0, 24);
        z.setCurve(2, 5, 20);
        w.due("not by setCurve", z.board(0, 8), 0);
        w.due("but in the next tick, 25 against 24", kindsAfter(z, 1), 5);
        z.setCurve(2, 0, 99);
        z.setCurve(2, 4, 300);
        w.due("nor are faults taken back", kindsAfter(z, 1), 5);
        z.setCurve(2, 4, 119);
        w.due("the lowest peak as it is when it leaves", kindsAfter(z, 21), 5);
    }

    private static int kindsAfter(BeggingBoards x, int ticks) {
        x.pass(ticks);
        return x.board(0, 8);
    }

    private static void whereFaultsWere(Walk w) {
        w.says("For each kind it is kept in which cell the board was then for the first time,");
        BeggingBoards x = flat(120, 1);
        x.pass(40);
        x.setCurve(0, 0, 12);
        x.setCurve(0, 1, 106);
        x.setCurve(0, 3, 3);
        x.setCurve(0, 5, 115);
        x.load(0, 1);
        x.pass(24);
        // 70 degrees at once; 107 in the third tick; 116 in the fifth; four ticks above in the sixth.
        int[] cells = {1, 6, 5, NONE, 24};
        for (int kind = 0; kind < 5; kind++) {
            w.due("the cell of the kind " + kind, x.fault(0, kind, 0), cells[kind]);
        }
        w.says("and at which tick (the number of ticks that had passed before this tick);");
        int[] ticks = {40, 45, 44, NONE, 63};
        for (int kind = 0; kind < 5; kind++) {
            w.due("the tick of the kind " + kind, x.fault(0, kind, 1), ticks[kind]);
        }
        w.says("for one that has left the cell is the length of the belt.");
        BeggingBoards y = flat(20, 3);
        y.setZone(5, 6, 20, 5);
        y.load(0, 1);
        y.pass(9);
        w.due("in the tick that brings it to cell 27, of 26", y.fault(0, 3, 0), 26);
        w.due("of the kind 4 too", y.fault(0, 4, 0), 26);
    }

    // ---- text, snapshots, undo

    private static int answerTo(String text) {
        BeggingBoards x = new BeggingBoards();
        Scenes.write(x, text);
        return x.carryOut();
    }

    private static void text(Walk w) {
        w.heading("### Text");
        w.says("There is a text of at most 100 characters, empty at first.");
        BeggingBoards x = new BeggingBoards();
        for (int length = 0; length < 100; length++) {
            w.due("characters", x.count(15), length);
            x.append('p');
        }
        w.due("one more", x.append('p'), FULL);
        w.due("characters", x.count(15), 100);
        w.says("A text of orders is one or more orders with \";\" between two.");
        w.due("one", answerTo("p1"), 1);
        w.due("two", answerTo("p1;s2"), 2);
        w.due("none", answerTo(""), -2000);
        w.due("nothing between two", answerTo("p1s2"), -2002);
        w.due("no order after the last one", answerTo("p1;"), -2003);
        w.due("no order between two", answerTo("p1;;s2"), -2003);
        w.says("An order is \"l\" curve \",\" weight (load), \"p\" ticks (pass), \"t\" board (take off),"
                + " \"s\" speed (set the speed).");
        BeggingBoards y = new BeggingBoards();
        Scenes.write(y, "l3,7;p2;s3;t0");
        w.due("orders", y.carryOut(), 4);
        w.due("the curve", y.board(0, 0), 3);
        w.due("the weight", y.board(0, 1), 7);
        w.due("the ticks", y.count(0), 2);
        w.due("taken off", y.board(0, 2), 2);
        w.due("the speed", y.count(7), 3);
        w.due("another letter", answerTo("x1"), -2000);
        w.due("a load without a weight", answerTo("l3;p1"), -2002);
        w.due("a pass with two numbers", answerTo("p1,1"), -2002);
        w.says("A number is one or two digits, the first of two not 0.");
        w.due("one digit", answerTo("p9"), 1);
        w.due("two digits", answerTo("p10"), 1);
        w.due("0, which no pass takes", answerTo("p0"), 0);
        w.due("a first digit of 0", answerTo("p01"), -2002);
        w.due("three digits", answerTo("p100"), -2003);
        w.due("no digit", answerTo("p;"), -2001);
        w.says("The fault of the text is the index, from 0, of the first character that is not allowed at its place,");
        w.due("index 0", answerTo("?p1"), -2000);
        w.due("index 5", answerTo("l0,1 ;p1"), -2004);
        w.due("the first of two", answerTo("p1;!;?"), -2003);
        w.says("or the length of the text if it ends too early (as the empty text does).");
        w.due("the empty text", answerTo(""), -2000);
        w.due("a letter alone", answerTo("t"), -2001);
        w.due("l0,", answerTo("l0,"), -2003);
    }

    /** What is kept has changed from what it is at first. */
    private static BeggingBoards changed() {
        BeggingBoards x = new BeggingBoards();
        x.setZone(1, 5, 140, 7);
        x.setCurve(1, 0, 9);
        x.set(1, 2);
        x.set(2, 1);
        x.load(1, 4);
        x.pass(3);
        x.load(0, 2);
        x.takeOff(1);
        x.append('p');
        return x;
    }

    private static void snapshots(Walk w) {
        w.heading("### Snapshots");
        w.says("There are two slots for snapshots, empty at first.");
        BeggingBoards x = new BeggingBoards();
        w.due("snapshots", x.count(13), 0);
        w.due("empty slots", x.restore(0) + x.restore(1), 2 * ILLEGAL);
        w.outside(FRESH, "take", 0, 1, BeggingBoards::take);
        w.says("A snapshot keeps everything but the text, the slots and the history.");
        BeggingBoards y = changed();
        String before = Looking.atOven(y);
        y.take(0);
        y.pass(20);
        y.take(1);
        y.append('1');
        y.restore(0);
        w.holds("all that is kept", Looking.atOven(y).equals(before));
        w.due("the text is as it is now", y.count(15), 2);
        w.due("the slots are as they are now", y.count(13), 2);
        w.due("the history too", y.count(14), 5);
        w.says("To restore it makes all this as it was.");
        BeggingBoards same = changed();
        y.pass(5);
        same.pass(5);
        w.holds("it goes on as it would have", Looking.atOven(y).equals(Looking.atOven(same)));
    }

    private static void undo(Walk w) {
        w.heading("### Undo");
        w.says("A history of at most 5 states is kept;");
        BeggingBoards x = new BeggingBoards();
        for (int call = 1; call <= 8; call++) {
            x.pass(1);
            w.due("states", x.count(14), Math.min(call, 5));
        }
        w.says("a state is everything but the text and the history (the slots belong to it).");
        BeggingBoards y = changed();
        String before = Looking.atOven(y);
        y.take(0);
        y.pass(9);
        y.append('1');
        y.undo();
        w.holds("all that belongs to it", Looking.atOven(y).equals(before));
        w.due("the slot is taken still", y.count(13), 1);
        y.undo();
        w.due("the slot is empty again", y.count(13), 0);
        w.due("the text is as it is now", y.count(15), 2);
        w.due("the history is shorter", y.count(14), 3);
        w.says("Every successful call of a method that is called an action records the state before it");
        for (Scene scene : Scenes.ALL) {
            actions(w, scene);
        }
        w.says("(also if nothing changes by it);");
        w.isAction(FRESH, "set to the same", z -> z.set(0, 2));
        w.isAction(FRESH, "setCurve to the same", z -> z.setCurve(0, 0, 40));
        w.isAction(FRESH, "setZone to the same", z -> z.setZone(0, 4, 120, 5));
        w.isAction(FRESH.then("a snapshot", z -> z.take(0)), "restore what is there", z -> z.restore(0));
        w.isAction(FRESH.then("a snapshot", z -> z.take(0)), "take what is there", z -> z.take(0));
        w.says("when a sixth one is recorded, the oldest one is dropped.");
        BeggingBoards z = new BeggingBoards();
        for (int call = 0; call < 6; call++) {
            z.pass(1);
        }
        int undone = 0;
        while (undone < 9 && z.undo() >= 0) {
            undone++;
        }
        w.due("five can be undone", undone, 5);
        w.due("to the state after the first", z.count(0), 1);
        w.says("undo() removes the latest state from the history and restores it.");
        z.pass(3);
        z.pass(4);
        w.due("one is left", z.undo(), 1);
        w.due("the ticks of before the latest", z.count(0), 4);
        w.due("none is left", z.undo(), 0);
        w.due("the ticks of before that", z.count(0), 1);
        w.due("nothing to undo", z.undo(), ILLEGAL);
    }

    private static void actions(Walk w, Scene scene) {
        w.isAction(scene, "setCurve", x -> x.setCurve(3, 5, 299));
        w.isAction(scene, "set", x -> x.set(3, 8));
        w.isAction(scene, "take", x -> x.take(1));
        if (scene != Scenes.LATE) {
            w.isAction(scene, "pass", x -> x.pass(2));
        }
        Scene empty = scene.then("no board on the belt", x -> {
            for (int board = 0; board < 30; board++) {
                x.takeOff(board);
            }
        });
        w.isAction(empty, "setZone", x -> x.setZone(0, 8, 290, 1));
        if (scene != Scenes.FULL) {
            w.isAction(empty, "load", x -> x.load(1, 5));
            Scene loaded = empty.then("a board", x -> x.load(1, 5));
            w.isAction(loaded, "takeOff", x -> x.takeOff(x.count(1) - 1));
        }
        w.isAction(scene.then("a snapshot", x -> x.take(1)), "restore", x -> x.restore(1));
    }

    // ---- errors

    private static void errors(Walk w) {
        w.heading("### Errors");
        w.says("A call that returns an error code changes nothing.");
        for (Scene scene : Scenes.ALL) {
            w.refuses(scene, "setZone(6, 4, 100, 5)", INVALID, x -> x.setZone(6, 4, 100, 5));
            w.refuses(scene, "setCurve(0, 6, 20)", INVALID, x -> x.setCurve(0, 6, 20));
            w.refuses(scene, "set(4, 1)", INVALID, x -> x.set(4, 1));
            w.refuses(scene, "load(4, 1)", INVALID, x -> x.load(4, 1));
            w.refuses(scene, "takeOff(30)", INVALID, x -> x.takeOff(30));
            w.refuses(scene, "pass(100)", INVALID, x -> x.pass(100));
            w.refuses(scene, "take(2)", INVALID, x -> x.take(2));
            w.refuses(scene, "restore(2)", INVALID, x -> x.restore(2));
            w.refuses(scene, "append(256)", INVALID, x -> x.append(256));
            Scene faulty = scene.then("a text that ends too early", x -> {
                x.clearText();
                Scenes.write(x, "p1;");
            });
            w.refuses(faulty, "carryOut()", -2003, BeggingBoards::carryOut);
        }
        for (Scene scene : Scenes.WITH_BOARDS_ON_BELT) {
            w.refuses(scene, "setZone(0, 4, 100, 5)", ILLEGAL, x -> x.setZone(0, 4, 100, 5));
        }
        w.refuses(FRESH, "undo()", ILLEGAL, BeggingBoards::undo);
        w.refuses(FRESH, "restore(1)", ILLEGAL, x -> x.restore(1));
        w.refuses(Scenes.BUSY, "load(0, 1)", ILLEGAL, x -> x.load(0, 1));
        w.refuses(Scenes.FULL, "load(0, 1)", FULL, x -> x.load(0, 1));
        w.refuses(Scenes.FULL, "append('p')", FULL, x -> x.append('p'));
        w.refuses(Scenes.LATE, "pass(1)", FULL, x -> x.pass(1));
        w.refuses(Scenes.EMPTIED, "takeOff(0)", ILLEGAL, x -> x.takeOff(0));
        w.says("If several error conditions apply, the method returns the one that its description lists first;");
        w.due("setZone: a wrong power, and a board", Scenes.BUSY.make().setZone(0, 4, 100, 0), INVALID);
        w.due("load: a wrong weight, and a board in the gap", Scenes.BUSY.make().load(0, 10), INVALID);
        Scene thirty = Scenes.thirtyInARow();
        w.due("load: a board in the gap, and 30 are loaded", thirty.make().load(0, 1), ILLEGAL);
        w.due("load: a wrong curve, and both", thirty.make().load(-1, 1), INVALID);
        w.due("pass: too many, and beyond 5000", Scenes.LATE.make().pass(100), INVALID);
        w.due("append: a wrong one, and 100 are there", Scenes.FULL.make().append(0), INVALID);
        w.due("foretell: a wrong what, of one that has left", Scenes.EMPTIED.make().foretell(0, 4), INVALID);
        w.says("NONE is no error, and it is returned only if no error condition applies.");
        BeggingBoards x = new BeggingBoards();
        x.load(0, 1);
        w.due("fault", x.fault(0, 2, 0), NONE);
        w.due("fault of no board", x.fault(1, 2, 0), INVALID);
        w.due("worstCell", x.worstCell(2, 0), NONE);
        w.due("worstCell of no kind", x.worstCell(5, 0), INVALID);
        w.due("the tick at which it left", x.board(0, 10), NONE);
        w.due("of no board", x.board(1, 10), INVALID);
        x.setCurve(0, 4, 300);
        w.due("heaviest", x.heaviest(0), NONE);
        w.due("heaviest of no curve", x.heaviest(4), INVALID);
    }

    private static void constants(Walk w) {
        w.heading("The constants:");
        w.says("`INVALID_ARGUMENT = -1001`: An argument is out of range, or names something that does not exist.");
        w.due("it", INVALID, -1001);
        w.due("out of range", new BeggingBoards().set(0, 4), -1001);
        w.due("names a board that is not there", new BeggingBoards().board(0, 0), -1001);
        w.says("`ILLEGAL_STATE = -1002`: The call is not possible in the present state.");
        w.due("it", ILLEGAL, -1002);
        w.due("nothing to undo", new BeggingBoards().undo(), -1002);
        w.says("`CAPACITY_EXCEEDED = -1003`: There is no room.");
        w.due("it", FULL, -1003);
        w.due("no room in the text", Scenes.FULL.make().append('p'), -1003);
        w.says("`NONE = -1009`: There is no such value.");
        w.due("it", NONE, -1009);
        w.due("no worst cell", new BeggingBoards().worstCell(0, 0), -1009);
    }

    // ---- the parts of the interface

    private static void interfaceParts(Walk w) throws IOException {
        part(w, "oven and curves", "setZone", "setCurve", "set");
        part(w, "boards", "load", "takeOff", "pass");
        part(w, "snapshots", "take", "restore", "undo");
        part(w, "text", "append", "clearText", "carryOut");
        part(w, "looking", "count", "zone", "curve", "board", "fault", "worstCell", "faultCells");
        part(w, "what could be, which changes nothing", "foretell", "wouldFail", "heaviest", "room");
        for (Scene scene : Scenes.ALL) {
            w.holds(scene.name + ": no forecast changes anything", scene.toldAfter(x -> {
                Looking.atPart(x, Looking.FORECASTS);
                return 0;
            }).equals(scene.told()));
        }
    }

    private static void part(Walk w, String name, String... methods) throws IOException {
        List<String> due = List.of(methods);
        w.says("Ahead of the calls `" + String.join("`, `", due) + "` the interface says: ---- " + name
                + ".");
        w.holds("so does the class", methodsBehind("// ---- " + name + "\n").equals(due));
    }

    /** The public methods between a comment of the source and the next one of its kind. */
    private static List<String> methodsBehind(String comment) throws IOException {
        String source = Files.readString(SOURCE);
        int start = source.indexOf("    " + comment);
        List<String> methods = new ArrayList<>();
        if (start >= 0) {
            int end = source.indexOf("    // ---- ", start + 1);
            Matcher matcher = Pattern.compile("(?m)^    public int (\\w+)\\(").matcher(
                    source.substring(start, end < 0 ? source.length() : end));
            while (matcher.find()) {
                methods.add(matcher.group(1));
            }
        }
        return methods;
    }
}
