import java.io.IOException;

/** Boundary cases of the promises 1 to 4, 15 and 16: a new object, setZone, setCurve, set, zone, curve. */
public final class BoundsOfOvenTest {
    private static final int ILLEGAL = BeggingBoards.ILLEGAL_STATE;
    private static final int INVALID = BeggingBoards.INVALID_ARGUMENT;
    private static final int NONE = BeggingBoards.NONE;
    private static final Scene FRESH = Scenes.FRESH;

    private static final String[] CURVE_RANGES = {
        "0 the steepest rise (1 to 99; at first 40)", "1 the melting point (20 to 300; at first 180)",
        "2 the fewest ticks (0 to 99; at first 2)", "3 the most ticks (0 to 99; at first 6)",
        "4 the lowest peak (20 to 300; at first 190)", "5 the highest peak (20 to 300; at first 240)"};
    private static final int[] CURVE_LEAST = {1, 20, 0, 0, 20, 20};
    private static final int[] CURVE_MOST = {99, 300, 99, 99, 300, 300};
    private static final int[] CURVE_FIRST = {40, 180, 2, 6, 190, 240};

    private static final String[] BELT_RANGES = {
        "a speed of 1 to 3 cells a tick (at first 2)", "a gap of 1 to 20 cells (at first 3)",
        "a bound for pleas of 0 to 99 (at first 6;", "a drop of 0 to 9 (at first 1)"};
    private static final int[] BELT_LEAST = {1, 1, 0, 0};
    private static final int[] BELT_MOST = {3, 20, 99, 9};
    private static final int[] BELT_FIRST = {2, 3, 6, 1};

    private BoundsOfOvenTest() {
    }

    public static void main(String[] args) throws IOException {
        Bounds b = new Bounds("BoundsOfOvenTest", 1, 2, 3, 4, 15, 16);
        newObject(b);
        nothingInANewObject(b);
        setZoneOutside(b);
        setZoneInside(b);
        lengthOfTheBelt(b);
        setZoneWithABoardOnTheBelt(b);
        setZoneRefusesTheArgumentFirst(b);
        setCurveOutside(b);
        setCurveInside(b);
        setOutside(b);
        setInside(b);
        zoneOutside(b);
        zoneInside(b);
        cellsAtTheEndsOfZones(b);
        curveOutside(b);
        b.end();
    }

    // ---- promise 1

    private static void newObject(Bounds b) {
        BeggingBoards x = FRESH.make();
        b.sentence(1, "A zone has a length of 2 to 8 cells (at first 4)");
        b.due("the length of zone 0", x.zone(0, 0), 4);
        b.due("the length of zone 5", x.zone(5, 0), 4);
        b.due("the length of the belt", x.count(6), 24);
        b.sentence(1, "a power of 1 to 20 (at first 5), and a warmth, which is its target at first");
        b.due("the power of zone 0", x.zone(0, 2), 5);
        b.due("the power of zone 5", x.zone(5, 2), 5);
        b.sentence(1, "The targets are 120, 160, 180, 240, 230 and 60 at first");
        int[] targets = {120, 160, 180, 240, 230, 60};
        for (int zone = 0; zone < 6; zone++) {
            b.due("the target of zone " + zone, x.zone(zone, 1), targets[zone]);
            b.due("the warmth of zone " + zone, x.zone(zone, 3), targets[zone]);
        }
        for (int what = 0; what < 4; what++) {
            b.sentence(1, BELT_RANGES[what]);
            b.due("at first", x.count(7 + what), BELT_FIRST[what]);
        }
        for (int what = 0; what < 6; what++) {
            b.sentence(1, CURVE_RANGES[what]);
            b.due("at first, of the curve 0", x.curve(0, what), CURVE_FIRST[what]);
            b.due("at first, of the curve 3", x.curve(3, what), CURVE_FIRST[what]);
        }
    }

    private static void nothingInANewObject(Bounds b) {
        b.sentence(1, "Creates an oven with an empty belt, with an empty text.");
        for (int what = 0; what <= 5; what++) {
            b.tells(FRESH, "count(" + what + ")", 0, with(what, BeggingBoards::count));
        }
        for (int what = 11; what <= 15; what++) {
            b.tells(FRESH, "count(" + what + ")", 0, with(what, BeggingBoards::count));
        }
        for (int zone = 0; zone < 6; zone++) {
            int here = zone;
            b.tells(FRESH, "the boards in zone " + zone, 0, x -> x.zone(here, 5));
            b.tells(FRESH, "their weights", 0, x -> x.zone(here, 6));
        }
        b.tells(FRESH, "clearText()", 0, BeggingBoards::clearText);
        b.tells(FRESH, "room()", 0, BeggingBoards::room);
        b.tells(FRESH, "faultCells()", 0, BeggingBoards::faultCells);
        b.tells(FRESH, "worstCell(0, 0)", NONE, x -> x.worstCell(0, 0));
        b.refuses(FRESH, "carryOut()", -2000, BeggingBoards::carryOut);
        b.refuses(FRESH, "undo()", ILLEGAL, BeggingBoards::undo);
        b.refuses(FRESH, "restore(0)", ILLEGAL, x -> x.restore(0));
        b.refuses(FRESH, "restore(1)", ILLEGAL, x -> x.restore(1));
        b.refuses(FRESH, "takeOff(0)", INVALID, x -> x.takeOff(0));
        b.refuses(FRESH, "board(0, 0)", INVALID, x -> x.board(0, 0));
        b.refuses(FRESH, "fault(0, 0, 0)", INVALID, x -> x.fault(0, 0, 0));
        b.refuses(FRESH, "foretell(0, 0)", INVALID, x -> x.foretell(0, 0));
    }

    private static Scene.Call with(int value, Bounds.CallWith it) {
        return x -> it.on(x, value);
    }

    // ---- promise 2

    private static void setZoneOutside(Bounds b) {
        b.sentence(2, "`zone`: 0 to 5");
        b.outside(Scenes.ALL, "setZone(.., 4, 100, 5)", 0, 5, (x, v) -> x.setZone(v, 4, 100, 5));
        b.sentence(2, "`length`: 2 to 8");
        b.outside(Scenes.ALL, "setZone(0, .., 100, 5)", 2, 8, (x, v) -> x.setZone(0, v, 100, 5));
        b.sentence(2, "`target`: 20 to 300");
        b.outside(Scenes.ALL, "setZone(5, 4, .., 5)", 20, 300, (x, v) -> x.setZone(5, 4, v, 5));
        b.sentence(2, "`power`: 1 to 20");
        b.outside(Scenes.ALL, "setZone(5, 8, 300, ..)", 1, 20, (x, v) -> x.setZone(5, 8, 300, v));
    }

    private static void setZoneInside(Bounds b) {
        for (Scene scene : Scenes.WITH_EMPTY_BELT) {
            b.sentence(2, "`zone`: 0 to 5");
            zoneBecomes(b, scene, 0, 4, 100, 5, 24);
            zoneBecomes(b, scene, 5, 4, 100, 5, 24);
            b.sentence(2, "`length`: 2 to 8");
            zoneBecomes(b, scene, 0, 2, 100, 5, 22);
            zoneBecomes(b, scene, 5, 2, 100, 5, 22);
            zoneBecomes(b, scene, 0, 8, 100, 5, 28);
            zoneBecomes(b, scene, 5, 8, 100, 5, 28);
            b.sentence(2, "`target`: 20 to 300");
            zoneBecomes(b, scene, 1, 4, 20, 5, 24);
            zoneBecomes(b, scene, 4, 4, 300, 5, 24);
            b.sentence(2, "`power`: 1 to 20");
            zoneBecomes(b, scene, 2, 4, 100, 1, 24);
            zoneBecomes(b, scene, 3, 4, 100, 20, 24);
        }
        b.sentence(2, "whose warmth becomes the target");
        Scene cooled = FRESH.then("a cooled zone", x -> {
            x.setZone(0, 4, 120, 1);
            x.set(3, 9);
            x.load(0, 9);
            x.pass(1);
            x.takeOff(0);
        });
        b.due("the warmth before", cooled.make().zone(0, 3), 105);
        zoneBecomes(b, cooled, 0, 4, 120, 1, 24);
        zoneBecomes(b, cooled, 0, 4, 119, 1, 24);
        zoneBecomes(b, cooled, 0, 4, 20, 1, 24);
        zoneBecomes(b, cooled, 0, 4, 300, 1, 24);
        BeggingBoards x = cooled.make();
        x.setZone(1, 4, 120, 1);
        b.due("that of another zone does not", x.zone(0, 3), 105);
    }

    private static void zoneBecomes(Bounds b, Scene scene, int zone, int length, int target, int power, int belt) {
        String call = "setZone(" + zone + ", " + length + ", " + target + ", " + power + ")";
        Scene.Call it = x -> x.setZone(zone, length, target, power);
        b.does(scene, call, belt, it);
        BeggingBoards x = scene.make();
        BeggingBoards before = scene.make();
        it.on(x);
        int[] now = {length, target, power, target};
        for (int other = 0; other < 6; other++) {
            for (int what = 0; what < 4; what++) {
                b.due(call + ", zone " + other + " " + what, x.zone(other, what),
                        other == zone ? now[what] : before.zone(other, what));
            }
        }
        b.due(call + ", the length of the belt", x.count(6), belt);
    }

    private static void lengthOfTheBelt(Bounds b) {
        b.sentence(2, "Returns the length of the belt then");
        b.does(FRESH, "zones of the lengths 4 and once 3", 23, x -> x.setZone(3, 3, 100, 5));
        b.due("six shortest zones", Scenes.evenBelt(2, 2).make().count(6), 12);
        b.due("six longest zones", Scenes.evenBelt(8, 2).make().count(6), 48);
        b.does(Scenes.evenBelt(2, 2), "the shortest belt", 12, x -> x.setZone(5, 2, 60, 5));
        b.does(Scenes.evenBelt(8, 2), "the longest belt", 48, x -> x.setZone(0, 8, 60, 5));
        b.sentence(15, "4 its first cell");
        for (int zone = 0; zone < 6; zone++) {
            b.due("of the shortest zone " + zone, Scenes.evenBelt(2, 2).make().zone(zone, 4), 2 * zone);
            b.due("of the longest zone " + zone, Scenes.evenBelt(8, 2).make().zone(zone, 4), 8 * zone);
        }
    }

    private static void setZoneWithABoardOnTheBelt(Bounds b) {
        b.sentence(2, "ILLEGAL_STATE if a board is on the belt");
        for (Scene scene : Scenes.WITH_BOARDS_ON_BELT) {
            b.refuses(scene, "setZone(0, 2, 20, 1)", ILLEGAL, x -> x.setZone(0, 2, 20, 1));
            b.refuses(scene, "setZone(5, 8, 300, 20)", ILLEGAL, x -> x.setZone(5, 8, 300, 20));
        }
        Scene loaded = FRESH.then("a board at cell 0", x -> x.load(0, 1));
        b.refuses(loaded, "setZone(0, 4, 120, 5)", ILLEGAL, x -> x.setZone(0, 4, 120, 5));
        b.refuses(loaded, "setZone(5, 4, 120, 5)", ILLEGAL, x -> x.setZone(5, 4, 120, 5));
        Scene last = loaded.then("then in the last cell", x -> {
            x.set(0, 1);
            x.set(2, 0);
            x.pass(23);
        });
        b.due("its cell", last.make().board(0, 3), 23);
        b.refuses(last, "setZone(0, 4, 120, 5)", ILLEGAL, x -> x.setZone(0, 4, 120, 5));
        b.does(last.then("it has left", x -> x.pass(1)), "setZone(0, 5, 120, 5)", 25, x -> x.setZone(0, 5, 120, 5));
        b.does(last.then("it was taken off", x -> x.takeOff(0)), "setZone(0, 5, 120, 5)", 25,
                x -> x.setZone(0, 5, 120, 5));
        b.does(loaded.then("undone", BeggingBoards::undo), "setZone(0, 5, 120, 5)", 25, x -> x.setZone(0, 5, 120, 5));
        b.refuses(last.then("another one comes as it leaves", x -> {
            x.load(0, 1);
            x.pass(1);
        }), "setZone(0, 5, 120, 5)", ILLEGAL, x -> x.setZone(0, 5, 120, 5));
    }

    private static void setZoneRefusesTheArgumentFirst(Bounds b) {
        b.sentence(2, "If several error conditions apply, the method returns the one that its description lists first");
        for (Scene scene : Scenes.WITH_BOARDS_ON_BELT) {
            b.refuses(scene, "setZone(6, 4, 100, 5)", INVALID, x -> x.setZone(6, 4, 100, 5));
            b.refuses(scene, "setZone(0, 9, 100, 5)", INVALID, x -> x.setZone(0, 9, 100, 5));
            b.refuses(scene, "setZone(0, 4, 301, 5)", INVALID, x -> x.setZone(0, 4, 301, 5));
            b.refuses(scene, "setZone(0, 4, 100, 0)", INVALID, x -> x.setZone(0, 4, 100, 0));
            b.refuses(scene, "setZone(-1, 1, 19, 21)", INVALID, x -> x.setZone(-1, 1, 19, 21));
        }
    }

    // ---- promise 3

    private static void setCurveOutside(Bounds b) {
        b.sentence(3, "`curve`: 0 to 3");
        b.outside(Scenes.ALL, "setCurve(.., 0, 40)", 0, 3, (x, v) -> x.setCurve(v, 0, 40));
        b.sentence(3, "`what`: 0 to 5");
        b.outside(Scenes.ALL, "setCurve(0, .., 40)", 0, 5, (x, v) -> x.setCurve(0, v, 40));
        for (int what = 0; what < 6; what++) {
            int number = what;
            b.sentence(3, CURVE_RANGES[what]);
            b.outside(Scenes.ALL, "setCurve(0, " + what + ", ..)", CURVE_LEAST[what], CURVE_MOST[what],
                    (x, v) -> x.setCurve(0, number, v));
            b.outside(Scenes.WITH_EMPTY_BELT, "setCurve(3, " + what + ", ..)", CURVE_LEAST[what], CURVE_MOST[what],
                    (x, v) -> x.setCurve(3, number, v));
        }
        b.sentence(3, "INVALID_ARGUMENT if an argument is out of range");
        b.refuses(FRESH, "all arguments wrong", INVALID, x -> x.setCurve(4, 6, -1));
        b.refuses(FRESH, "no such number, and a value for no number", INVALID, x -> x.setCurve(0, -1, 301));
    }

    private static void setCurveInside(Bounds b) {
        for (int curve = 0; curve < 4; curve += 3) {
            for (int what = 0; what < 6; what++) {
                b.sentence(3, CURVE_RANGES[what]);
                curveBecomes(b, FRESH, curve, what, CURVE_LEAST[what]);
                curveBecomes(b, FRESH, curve, what, CURVE_MOST[what]);
                curveBecomes(b, Scenes.FULL, curve, what, CURVE_LEAST[what]);
                curveBecomes(b, Scenes.BUSY, curve, what, CURVE_MOST[what]);
            }
        }
        b.sentence(3, "Returns the previous number");
        Scene ends = FRESH.then("each number at an end of its range", x -> {
            x.setCurve(1, 0, 1);
            x.setCurve(1, 1, 300);
            x.setCurve(1, 2, 0);
            x.setCurve(1, 3, 99);
        });
        int[] previous = {1, 300, 0, 99};
        for (int what = 0; what < 4; what++) {
            int number = what;
            b.does(ends, "setCurve(1, " + what + ", 50)", previous[what], x -> x.setCurve(1, number, 50));
            b.does(ends, "setCurve(1, " + what + ", the same)", previous[what],
                    x -> x.setCurve(1, number, previous[number]));
        }
    }

    private static void curveBecomes(Bounds b, Scene scene, int curve, int what, int value) {
        String call = "setCurve(" + curve + ", " + what + ", " + value + ")";
        BeggingBoards before = scene.make();
        Scene.Call it = x -> x.setCurve(curve, what, value);
        b.does(scene, call, before.curve(curve, what), it);
        BeggingBoards x = scene.make();
        it.on(x);
        for (int other = 0; other < 4; other++) {
            for (int number = 0; number < 6; number++) {
                b.due(call + ", curve " + other + " " + number, x.curve(other, number),
                        other == curve && number == what ? value : before.curve(other, number));
            }
        }
    }

    // ---- promise 4

    private static void setOutside(Bounds b) {
        b.sentence(4, "`what`: 0 for the speed, 1 for the gap, 2 for the bound for pleas, 3 for the drop");
        b.outside(Scenes.ALL, "set(.., 1)", 0, 3, (x, v) -> x.set(v, 1));
        for (int what = 0; what < 4; what++) {
            int number = what;
            b.sentence(4, BELT_RANGES[what]);
            b.outside(Scenes.ALL, "set(" + what + ", ..)", BELT_LEAST[what], BELT_MOST[what], (x, v) -> x.set(number, v));
        }
        b.sentence(4, "INVALID_ARGUMENT if an argument is out of range");
        b.refuses(FRESH, "both arguments wrong", INVALID, x -> x.set(4, -1));
    }

    private static void setInside(Bounds b) {
        for (Scene scene : Scenes.ALL) {
            for (int what = 0; what < 4; what++) {
                b.sentence(4, BELT_RANGES[what]);
                beltBecomes(b, scene, what, BELT_LEAST[what]);
                beltBecomes(b, scene, what, BELT_MOST[what]);
            }
        }
        b.sentence(4, "Returns the previous number");
        Scene ends = FRESH.then("each number at an end of its range", x -> {
            x.set(0, 3);
            x.set(1, 20);
            x.set(2, 0);
            x.set(3, 9);
        });
        int[] previous = {3, 20, 0, 9};
        for (int what = 0; what < 4; what++) {
            int number = what;
            b.does(ends, "set(" + what + ", 1)", previous[what], x -> x.set(number, 1));
            b.does(ends, "set(" + what + ", the same)", previous[what], x -> x.set(number, previous[number]));
        }
    }

    private static void beltBecomes(Bounds b, Scene scene, int what, int value) {
        String call = "set(" + what + ", " + value + ")";
        BeggingBoards before = scene.make();
        Scene.Call it = x -> x.set(what, value);
        b.does(scene, call, before.count(7 + what), it);
        BeggingBoards x = scene.make();
        it.on(x);
        for (int number = 0; number <= 13; number++) {
            b.due(call + ", count " + number, x.count(number), number == 7 + what ? value : before.count(number));
        }
    }

    // ---- promises 15 and 16

    private static void zoneOutside(Bounds b) {
        b.sentence(15, "`zone`: 0 to 5");
        b.outside(Scenes.ALL, "zone(.., 0)", 0, 5, (x, v) -> x.zone(v, 0));
        b.outside(Scenes.WITH_BOARDS_ON_BELT, "zone(.., 4)", 0, 5, (x, v) -> x.zone(v, 4));
        b.outside(Scenes.WITH_BOARDS_ON_BELT, "zone(.., 5)", 0, 5, (x, v) -> x.zone(v, 5));
        b.outside(Scenes.WITH_BOARDS_ON_BELT, "zone(.., 6)", 0, 5, (x, v) -> x.zone(v, 6));
        b.sentence(15, "`what`: 0 its length");
        b.outside(Scenes.ALL, "zone(0, ..)", 0, 6, (x, v) -> x.zone(0, v));
        b.outside(Scenes.ALL, "zone(5, ..)", 0, 6, (x, v) -> x.zone(5, v));
        b.sentence(15, "INVALID_ARGUMENT if an argument is out of range");
        b.refuses(FRESH, "zone(6, 7)", INVALID, x -> x.zone(6, 7));
    }

    private static void zoneInside(Bounds b) {
        b.sentence(15, "`zone`: 0 to 5");
        int[] first = {4, 120, 5, 120, 0, 0, 0};
        int[] last = {4, 60, 5, 60, 20, 0, 0};
        for (int what = 0; what <= 6; what++) {
            int number = what;
            b.tells(FRESH, "zone(0, " + what + ")", first[what], x -> x.zone(0, number));
            b.tells(FRESH, "zone(5, " + what + ")", last[what], x -> x.zone(5, number));
        }
    }

    private static void cellsAtTheEndsOfZones(Bounds b) {
        b.sentence(15, "The cells of the belt are numbered from 0 through all zones");
        int[] lengths = {2, 8, 3, 7, 2, 8};
        Scene uneven = FRESH.then("zones of uneven lengths", x -> {
            for (int zone = 0; zone < 6; zone++) {
                x.setZone(zone, lengths[zone], 100, 5);
            }
            x.set(0, 1);
            x.set(2, 0);
            x.load(0, 7);
        });
        BeggingBoards x = uneven.make();
        int cell = 0;
        for (int zone = 0; zone < 6; zone++) {
            b.due("the first cell of zone " + zone, x.zone(zone, 4), cell);
            for (int in = 0; in < lengths[zone]; in++) {
                b.due("at cell", x.board(0, 3), cell);
                for (int other = 0; other < 6; other++) {
                    b.due("cell " + cell + ", boards in zone " + other, x.zone(other, 5), other == zone ? 1 : 0);
                    b.due("cell " + cell + ", weights in zone " + other, x.zone(other, 6), other == zone ? 7 : 0);
                }
                x.pass(1);
                cell++;
            }
        }
        b.due("beyond the last cell", x.board(0, 2), 1);
        for (int zone = 0; zone < 6; zone++) {
            b.due("one that has left is not in zone " + zone, x.zone(zone, 5) + x.zone(zone, 6), 0);
        }
        BeggingBoards y = uneven.make();
        y.takeOff(0);
        b.due("one that was taken off is in no zone", y.zone(0, 5) + y.zone(0, 6), 0);
    }

    private static void curveOutside(Bounds b) {
        b.sentence(16, "`curve`: 0 to 3");
        b.outside(Scenes.ALL, "curve(.., 0)", 0, 3, (x, v) -> x.curve(v, 0));
        b.outside(Scenes.ALL, "curve(.., 5)", 0, 3, (x, v) -> x.curve(v, 5));
        b.tells(FRESH, "curve(0, 0)", 40, x -> x.curve(0, 0));
        b.tells(FRESH, "curve(3, 0)", 40, x -> x.curve(3, 0));
        b.sentence(16, "`what`: 0 to 5");
        b.outside(Scenes.ALL, "curve(0, ..)", 0, 5, (x, v) -> x.curve(0, v));
        b.outside(Scenes.ALL, "curve(3, ..)", 0, 5, (x, v) -> x.curve(3, v));
        b.tells(FRESH, "curve(0, 5)", 240, x -> x.curve(0, 5));
        b.tells(FRESH, "curve(3, 5)", 240, x -> x.curve(3, 5));
        b.sentence(16, "INVALID_ARGUMENT if an argument is out of range");
        b.refuses(FRESH, "curve(4, 6)", INVALID, x -> x.curve(4, 6));
    }
}
