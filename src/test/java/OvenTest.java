/** Promises 1 to 4, 15 and 16: a new object, setZone, setCurve, set, zone, curve. */
public final class OvenTest {
    private static final int INVALID = BeggingBoards.INVALID_ARGUMENT;
    private static final int ILLEGAL = BeggingBoards.ILLEGAL_STATE;
    private static final int LOW = Integer.MIN_VALUE;
    private static final int HIGH = Integer.MAX_VALUE;

    private OvenTest() {
    }

    public static void main(String[] args) {
        Check check = new Check("OvenTest");
        newObject(check);
        setZone(check);
        setZoneWrongly(check);
        setCurve(check);
        set(check);
        zone(check);
        curve(check);
        check.end();
    }

    private static void newObject(Check check) {
        BeggingBoards x = new BeggingBoards();
        int[] counts = {0, 0, 0, 0, 0, 0, 24, 2, 3, 6, 1, 0, 0, 0, 0, 0};
        for (int what = 0; what < counts.length; what++) {
            check.due("new: count " + what, x.count(what), counts[what]);
        }
        int[] targets = {120, 160, 180, 240, 230, 60};
        for (int zone = 0; zone < 6; zone++) {
            int[] told = {4, targets[zone], 5, targets[zone], 4 * zone, 0, 0};
            for (int what = 0; what < told.length; what++) {
                check.due("new: zone " + zone + " " + what, x.zone(zone, what), told[what]);
            }
        }
        int[] numbers = {40, 180, 2, 6, 190, 240};
        for (int curve = 0; curve < 4; curve++) {
            for (int what = 0; what < 6; what++) {
                check.due("new: curve " + curve + " " + what, x.curve(curve, what), numbers[what]);
            }
        }
        check.due("new: undo", x.undo(), ILLEGAL);
        check.due("new: restore 0", x.restore(0), ILLEGAL);
        check.due("new: restore 1", x.restore(1), ILLEGAL);
        check.due("new: clearText", x.clearText(), 0);
        check.due("new: room", x.room(), 0);
        check.due("new: faultCells", x.faultCells(), 0);
        check.due("new: board 0 0", x.board(0, 0), INVALID);
        BeggingBoards other = new BeggingBoards();
        x.set(0, 3);
        x.setZone(0, 8, 20, 20);
        x.load(0, 1);
        check.due("another object is another oven", other.count(7), 2);
        check.due("another object has its own zones", other.zone(0, 0), 4);
        check.due("another object has its own boards", other.count(1), 0);
    }

    private static void setZone(Check check) {
        BeggingBoards x = new BeggingBoards();
        check.due("setZone shortest", x.setZone(0, 2, 20, 1), 22);
        check.due("setZone longest", x.setZone(5, 8, 300, 20), 26);
        check.due("setZone in the middle", x.setZone(2, 3, 77, 9), 25);
        check.due("the length of the belt", x.count(6), 25);
        check.due("setZone is an action", x.count(14), 3);
        int[] told = {2, 20, 1, 20, 0, 0, 0, 8, 300, 20, 300, 17, 0, 0};
        for (int what = 0; what < 7; what++) {
            check.due("zone 0 " + what, x.zone(0, what), told[what]);
            check.due("zone 5 " + what, x.zone(5, what), told[7 + what]);
        }
        check.due("zone 1 first cell", x.zone(1, 4), 2);
        check.due("zone 2 warmth", x.zone(2, 3), 77);
        check.due("zone 3 first cell", x.zone(3, 4), 9);
        check.due("the shortest belt", longestOrShortest(2), 12);
        check.due("the longest belt", longestOrShortest(8), 48);

        // A zone that was cooled has the target as its warmth again, also if the target stays.
        BeggingBoards y = new BeggingBoards();
        y.setZone(0, 4, 120, 1);
        y.set(3, 9);
        y.load(0, 9);
        y.pass(1);
        check.due("cooled", y.zone(0, 3), 105);
        y.takeOff(0);
        check.due("setZone when the belt is empty again", y.setZone(0, 4, 120, 1), 24);
        check.due("warmth becomes the target", y.zone(0, 3), 120);
    }

    private static int longestOrShortest(int length) {
        BeggingBoards x = new BeggingBoards();
        int belt = 0;
        for (int zone = 0; zone < 6; zone++) {
            belt = x.setZone(zone, length, 100, 5);
        }
        return belt;
    }

    private static void setZoneWrongly(Check check) {
        BeggingBoards x = new BeggingBoards();
        int[][] wrong = {{-1, 4, 100, 5}, {6, 4, 100, 5}, {LOW, 4, 100, 5}, {HIGH, 4, 100, 5},
            {0, 1, 100, 5}, {0, 9, 100, 5}, {0, LOW, 100, 5}, {0, HIGH, 100, 5},
            {0, 4, 19, 5}, {0, 4, 301, 5}, {0, 4, LOW, 5}, {0, 4, HIGH, 5},
            {0, 4, 100, 0}, {0, 4, 100, 21}, {0, 4, 100, LOW}, {0, 4, 100, HIGH}};
        String before = Looking.atAll(x);
        for (int[] a : wrong) {
            check.due("setZone wrongly", x.setZone(a[0], a[1], a[2], a[3]), INVALID);
        }
        check.holds("setZone that fails changes nothing", Looking.atAll(x).equals(before));
        x.load(0, 1);
        before = Looking.atAll(x);
        for (int[] a : wrong) {
            check.due("setZone wrongly with a board", x.setZone(a[0], a[1], a[2], a[3]), INVALID);
        }
        check.due("setZone with a board", x.setZone(3, 4, 100, 5), ILLEGAL);
        check.holds("setZone that fails changes nothing then", Looking.atAll(x).equals(before));
        x.pass(12);
        check.due("setZone when the board has left", x.setZone(3, 5, 100, 5), 25);
    }

    private static void setCurve(Check check) {
        int[] first = {40, 180, 2, 6, 190, 240};
        int[] least = {1, 20, 0, 0, 20, 20};
        int[] most = {99, 300, 99, 99, 300, 300};
        BeggingBoards x = new BeggingBoards();
        for (int curve = 0; curve < 4; curve++) {
            for (int what = 0; what < 6; what++) {
                String name = "setCurve " + curve + " " + what + " ";
                check.due(name + "too little", x.setCurve(curve, what, least[what] - 1), INVALID);
                check.due(name + "too much", x.setCurve(curve, what, most[what] + 1), INVALID);
                check.due(name + "far too little", x.setCurve(curve, what, LOW), INVALID);
                check.due(name + "far too much", x.setCurve(curve, what, HIGH), INVALID);
                check.due(name + "least", x.setCurve(curve, what, least[what]), first[what]);
                check.due(name + "most", x.setCurve(curve, what, most[what]), least[what]);
                check.due(name + "in the middle", x.setCurve(curve, what, 30 + curve), most[what]);
                check.due(name + "told", x.curve(curve, what), 30 + curve);
            }
        }
        String before = Looking.atAll(x);
        int[] wrongCurves = {-1, 4, LOW, HIGH};
        int[] wrongWhats = {-1, 6, LOW, HIGH};
        for (int i = 0; i < 4; i++) {
            check.due("setCurve of no curve", x.setCurve(wrongCurves[i], 0, 50), INVALID);
            check.due("setCurve of no number", x.setCurve(0, wrongWhats[i], 50), INVALID);
        }
        check.holds("setCurve that fails changes nothing", Looking.atAll(x).equals(before));
        BeggingBoards y = new BeggingBoards();
        y.load(0, 1);
        check.due("setCurve with a board on the belt", y.setCurve(0, 0, 41), 40);
        check.due("setCurve is an action", y.count(14), 2);
        check.due("setCurve to the same number", y.setCurve(0, 0, 41), 41);
        check.due("also if nothing changes", y.count(14), 3);
    }

    private static void set(Check check) {
        int[] first = {2, 3, 6, 1};
        int[] least = {1, 1, 0, 0};
        int[] most = {3, 20, 99, 9};
        BeggingBoards x = new BeggingBoards();
        for (int what = 0; what < 4; what++) {
            String name = "set " + what + " ";
            check.due(name + "too little", x.set(what, least[what] - 1), INVALID);
            check.due(name + "too much", x.set(what, most[what] + 1), INVALID);
            check.due(name + "far too little", x.set(what, LOW), INVALID);
            check.due(name + "far too much", x.set(what, HIGH), INVALID);
            check.due(name + "changes nothing by errors", x.count(7 + what), first[what]);
            check.due(name + "least", x.set(what, least[what]), first[what]);
            check.due(name + "most", x.set(what, most[what]), least[what]);
            check.due(name + "told", x.count(7 + what), most[what]);
        }
        check.due("set of no number", x.set(-1, 1), INVALID);
        check.due("set of no number", x.set(4, 1), INVALID);
        check.due("set of no number", x.set(LOW, 1), INVALID);
        check.due("set of no number", x.set(HIGH, 1), INVALID);
        BeggingBoards y = new BeggingBoards();
        y.set(1, 4);
        y.set(1, 4);
        y.set(1, 21);
        check.due("set is an action, an error is none", y.count(14), 2);
        check.due("setting the speed is no plea", y.set(0, 3) + y.count(11) + y.count(12), 2);
    }

    private static void zone(Check check) {
        BeggingBoards x = new BeggingBoards();
        int[] wrongZones = {-1, 6, LOW, HIGH};
        int[] wrongWhats = {-1, 7, LOW, HIGH};
        for (int i = 0; i < 4; i++) {
            check.due("zone that is none", x.zone(wrongZones[i], 0), INVALID);
            check.due("zone, first cell, that is none", x.zone(wrongZones[i], 4), INVALID);
            check.due("zone, told of nothing", x.zone(0, wrongWhats[i]), INVALID);
            check.due("zone, both wrong", x.zone(wrongZones[i], wrongWhats[i]), INVALID);
        }
        x.set(0, 1);
        x.set(1, 1);
        x.set(2, 0);
        x.load(0, 2);
        x.pass(1);
        x.load(0, 3);
        check.due("two boards in zone 0", x.zone(0, 5), 2);
        check.due("their weights", x.zone(0, 6), 5);
        check.due("none in zone 1", x.zone(1, 5) + x.zone(1, 6), 0);
        x.pass(2);
        check.due("the last cell of zone 0", x.board(0, 3), 3);
        check.due("still two", x.zone(0, 5), 2);
        x.pass(1);
        check.due("the first cell of zone 1", x.board(0, 3), 4);
        check.due("one is left in zone 0", x.zone(0, 5), 1);
        check.due("its weight", x.zone(0, 6), 3);
        check.due("one in zone 1", x.zone(1, 5), 1);
        check.due("its weight", x.zone(1, 6), 2);
        x.takeOff(1);
        check.due("one taken off is in no zone", x.zone(0, 5) + x.zone(0, 6), 0);
        x.pass(19);
        check.due("the last cell of the belt", x.board(0, 3), 23);
        check.due("is in zone 5", x.zone(5, 5) * 10 + x.zone(5, 6), 12);
        x.pass(1);
        check.due("one that has left is in no zone", x.zone(5, 5) + x.zone(5, 6), 0);
        check.due("a board that is in no zone is not in zone 0", x.zone(0, 5), 0);
    }

    private static void curve(Check check) {
        BeggingBoards x = new BeggingBoards();
        int[] wrongCurves = {-1, 4, LOW, HIGH};
        int[] wrongWhats = {-1, 6, LOW, HIGH};
        for (int i = 0; i < 4; i++) {
            check.due("curve that is none", x.curve(wrongCurves[i], 0), INVALID);
            check.due("curve, no such number", x.curve(3, wrongWhats[i]), INVALID);
            check.due("curve, both wrong", x.curve(wrongCurves[i], wrongWhats[i]), INVALID);
        }
        x.setCurve(2, 3, 55);
        check.due("curve 2 3", x.curve(2, 3), 55);
        check.due("curve 1 3", x.curve(1, 3), 6);
        check.due("curve 3 3", x.curve(3, 3), 6);
    }
}
