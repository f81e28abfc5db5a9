import java.io.IOException;
import java.lang.reflect.Field;
import java.lang.reflect.Member;
import java.lang.reflect.Method;
import java.lang.reflect.Modifier;
import java.util.Set;
import java.util.TreeSet;

/** The document from its first line up to the terms: what it is, and the public face. */
public final class WalkOfFaceTest {
    private static final int ILLEGAL = BeggingBoards.ILLEGAL_STATE;
    private static final int SLOWER = 1;
    private static final String[] CONSTANTS = {
        "public static final int INVALID_ARGUMENT = -1001;", "public static final int ILLEGAL_STATE = -1002;",
        "public static final int CAPACITY_EXCEEDED = -1003;", "public static final int NONE = -1009;"};
    private static final String[] METHODS = {
        "public int setZone(int zone, int length, int target, int power);",
        "public int setCurve(int curve, int what, int value);", "public int set(int what, int value);",
        "public int load(int curve, int weight);", "public int takeOff(int board);", "public int pass(int ticks);",
        "public int take(int slot);", "public int restore(int slot);", "public int undo();",
        "public int append(int character);", "public int clearText();", "public int carryOut();",
        "public int count(int what);", "public int zone(int zone, int what);", "public int curve(int curve, int what);",
        "public int board(int board, int what);", "public int fault(int board, int kind, int what);",
        "public int worstCell(int kind, int what);", "public int faultCells();",
        "public int foretell(int board, int what);", "public int wouldFail(int curve, int weight, int speed);",
        "public int heaviest(int curve);", "public int room();"};

    private WalkOfFaceTest() {
    }

    public static void main(String[] args) throws IOException {
        Walk w = new Walk("WalkOfFaceTest", Walk.START, Walk.TERMS);
        w.heading("# BeggingBoards ## What it is");
        boardsThatBeg(w);
        whatElseItIs(w);
        calls(w);
        face(w);
        w.end();
    }

    private static void boardsThatBeg(Walk w) {
        w.says("An oven with a belt for boards that beg for a slower ride:");
        BeggingBoards x = new BeggingBoards();
        x.setCurve(0, 0, 1);
        x.load(0, 9);
        x.pass(1);
        w.due("it begs", x.board(0, 9), SLOWER);
        w.due("and rides slower", x.count(7), 1);
        w.says("zones with heaters, boards by their weights that cool the zones and warm up slowly,");
        int[] weights = {1, 9};
        int[] warmths = {120, 109};
        int[] degrees = {70, 28};
        for (int i = 0; i < 2; i++) {
            BeggingBoards y = new BeggingBoards();
            y.set(3, 9);
            y.load(0, weights[i]);
            y.pass(1);
            // 9 * 1 / 5 is 1 and 9 * 9 / 5 is 16; the heater brings 5 back.
            w.due("the zone with the weight " + weights[i], y.zone(0, 3), warmths[i]);
            w.due("the degrees by the weight " + weights[i], y.board(0, 4), degrees[i]);
            y.takeOff(0);
            y.pass(3);
            w.due("the heater without the weight " + weights[i], y.zone(0, 3), 120);
        }
    }

    private static void whatElseItIs(Walk w) {
        w.says("curves with a steepest rise, ticks above a melting point and a peak,");
        BeggingBoards x = new BeggingBoards();
        x.setCurve(0, 0, 77);
        x.setCurve(0, 1, 222);
        x.setCurve(0, 4, 111);
        w.due("the steepest rise", x.curve(0, 0), 77);
        w.due("the melting point", x.curve(0, 1), 222);
        w.due("the lowest peak", x.curve(0, 4), 111);
        w.says("pleas by which the belt changes its speed, gaps,");
        x.set(2, 1);
        x.setCurve(0, 0, 1);
        x.load(0, 1);
        w.due("the gap", x.load(0, 1), ILLEGAL);
        x.pass(1);
        w.due("the speed", x.count(7), 1);
        w.due("by pleas", x.count(11), 1);
        w.says("faults that are told with where they were first, judgement at the end, forecasts,");
        BeggingBoards y = Scenes.flatBelt(100, 2);
        y.load(0, 9);
        w.due("the forecast", y.foretell(0, 0), 24);
        y.pass(11);
        w.due("no fault yet", y.board(0, 8), 0);
        y.pass(1);
        w.due("the judgement", y.board(0, 8), 24);
        w.due("where it was", y.fault(0, 4, 0), 24);
        w.says("the best speed for a board,");
        // By the speed 1 it is above in 9 ticks, by 2 in 2 of them, by 3 in none.
        int[] kinds = {2, 0, 24};
        for (int speed = 1; speed <= 3; speed++) {
            BeggingBoards fresh = new BeggingBoards();
            w.due("the speed " + speed + " for the weight 3", fresh.wouldFail(0, 3, speed), kinds[speed - 1]);
        }
        w.says("orders that are read from a text, snapshots and undo.");
        BeggingBoards z = new BeggingBoards();
        Scenes.write(z, "l0,3;p12");
        w.due("the orders", z.carryOut(), 2);
        w.due("the snapshot", z.take(0), 12);
        w.due("undo", z.undo() + z.undo(), 1);
        w.due("no tick has passed", z.count(0), 0);
    }

    private static void calls(Walk w) {
        w.says("An object is used for at most 512 calls after it has been made;");
        BeggingBoards x = new BeggingBoards();
        for (int call = 1; call <= 509; call++) {
            int before = (call - 1) % 20 + 1;
            w.due("call " + call, x.set(1, call % 20 + 1), call == 1 ? 3 : before);
        }
        w.due("call 510", x.load(0, 3), 0);
        w.due("call 511", x.pass(12), 1);
        w.due("call 512", x.board(0, 4), 139);
        w.says("what later calls answer is free.");
        for (int call = 513; call <= 1100; call++) {
            x.pass(99);
            x.load(call % 5, call % 11);
            x.append(call % 257);
            x.carryOut();
            x.undo();
        }
        w.holds("but no call throws (LANGUAGE.md, 7)", x.count(0) <= 5000);
    }

    private static void face(Walk w) {
        w.heading("## The public face ```java");
        w.says("public final class BeggingBoards {");
        w.due("public and final", BeggingBoards.class.getModifiers(), Modifier.PUBLIC | Modifier.FINAL);
        Set<String> members = new TreeSet<>();
        for (Field field : BeggingBoards.class.getDeclaredFields()) {
            if (isSeen(field)) {
                members.add(told(field));
            }
        }
        for (Method method : BeggingBoards.class.getDeclaredMethods()) {
            if (isSeen(method)) {
                members.add(told(method));
            }
        }
        for (String constant : CONSTANTS) {
            w.says(constant);
            w.holds("it is there", members.remove(constant));
        }
        w.says("public BeggingBoards();");
        w.due("constructors", BeggingBoards.class.getDeclaredConstructors().length, 1);
        w.due("public ones without parameters", BeggingBoards.class.getConstructors()[0].getParameterCount(), 0);
        for (String method : METHODS) {
            w.says(method);
            w.holds("it is there", members.remove(method.replaceAll("int \\w+([,)])", "int$1")));
        }
        w.says("} ```");
        w.holds("nothing else can be seen: " + members, members.isEmpty());
    }

    private static boolean isSeen(Member member) {
        return !Modifier.isPrivate(member.getModifiers());
    }

    private static String told(Field field) {
        try {
            return Modifier.toString(field.getModifiers()) + " " + field.getType() + " " + field.getName() + " = "
                    + field.get(null) + ";";
        } catch (IllegalAccessException e) {
            return field + ", which cannot be read";
        }
    }

    private static String told(Method method) {
        StringBuilder all = new StringBuilder(Modifier.toString(method.getModifiers()));
        all.append(' ').append(method.getReturnType()).append(' ').append(method.getName()).append('(');
        Class<?>[] types = method.getParameterTypes();
        for (int i = 0; i < types.length; i++) {
            all.append(i > 0 ? ", " : "").append(types[i]);
        }
        return all.append(");").toString();
    }
}
