import java.io.IOException;

/** The terms of the document from a tick up to the text: the steps of a tick, and the faults. */
public final class WalkOfTicksTest {
    private static final int NONE = BeggingBoards.NONE;
    private static final int SLOWER = 1;
    private static final int FASTER = 2;

    private WalkOfTicksTest() {
    }

    public static void main(String[] args) throws IOException {
        Walk w = new Walk("WalkOfTicksTest", Walk.TICKS, Walk.STATES);
        w.heading("### A tick");
        stepsOneAndTwo(w);
        stepThree(w);
        stepFour(w);
        w.heading("### Faults A board has a fault");
        kindsOfFaults(w);
        whereFaultsWere(w);
        w.end();
    }

    // ---- a tick

    private static void stepsOneAndTwo(Walk w) {
        w.says("1. Each board on the belt goes on by as many cells as the speed.");
        BeggingBoards x = Scenes.flatBelt(20, 3);
        x.load(0, 1);
        x.pass(1);
        x.set(0, 2);
        x.load(0, 2);
        x.pass(2);
        w.due("both go on", x.board(0, 3) * 100 + x.board(1, 3), 704);
        x.takeOff(0);
        x.pass(1);
        w.due("only the one on the belt", x.board(1, 3), 6);
        w.says("One that comes beyond the last cell has left.");
        int[] lastCells = {23, 22, 21};
        for (int speed = 1; speed <= 3; speed++) {
            BeggingBoards y = Scenes.flatBelt(20, speed);
            y.load(0, 1);
            y.pass(24 / speed - 1);
            w.due("the last cell it comes to", y.board(0, 3), lastCells[speed - 1]);
            w.due("it leaves", y.pass(1), 1);
            w.due("it has left", y.board(0, 2), 1);
        }
        w.says("2. Each zone loses drop times the weights of all boards in it together, divided by 5,");
        BeggingBoards z = Scenes.flatBelt(300, 1);
        z.setZone(0, 4, 300, 1);
        z.load(0, 4);
        z.pass(1);
        z.set(3, 7);
        z.load(0, 3);
        z.pass(1);
        w.due("7 * 7 / 5 less, and 1", z.zone(0, 3), 292);
        w.due("no other zone", z.zone(1, 3), 300);
        z.pass(2);
        // At the cells 3 and 2 it loses 9 and gains 1 again; then the first one comes to cell 4, before the zones lose.
        w.due("7 * 3 / 5 less, and 1", z.zone(0, 3), 284 - 4 + 1);
        w.due("7 * 4 / 5 less, and 5, in the zone that it came to", z.zone(1, 3), 300);
        w.says("but is at least 20 degrees warm;");
        w.due("30 less 16, but 20, and 3", warmthAfterATick(30, 3), 23);
        w.says("then it gains its power, up to its target, if it is below it,");
        w.due("100 less 16, and 3", warmthAfterATick(100, 3), 87);
        w.due("100 less 16, and 15", warmthAfterATick(100, 15), 99);
        w.due("100 less 16, and 17, up to 100", warmthAfterATick(100, 17), 100);
        w.says("or loses its power, down to its target, if it is above it.");
        BeggingBoards v = Scenes.flatBelt(300, 1);
        v.setZone(0, 4, 50, 20);
        v.pass(9);
        w.due("no zone comes above its target: by a lower target", v.zone(0, 3), 50);
        w.due("nor beside warmer ones", v.zone(1, 3), 300);
    }

    /** By a board of the weight 9 and the drop 9, which is a loss of 81 / 5, 16. */
    private static int warmthAfterATick(int target, int power) {
        BeggingBoards x = Scenes.flatBelt(target, 1);
        x.setZone(0, 4, target, power);
        x.set(3, 9);
        x.load(0, 9);
        x.pass(1);
        return x.zone(0, 3);
    }

    private static void stepThree(Walk w) {
        w.says("3. Each board on the belt becomes warmer by the warmth of its zone less its own degrees,"
                + " divided by its weight and 1 together.");
        int[] degrees = {70, 53, 45, 40, 36, 34, 32, 31, 30};
        for (int weight = 1; weight <= 9; weight++) {
            BeggingBoards x = Scenes.flatBelt(120, 1);
            x.load(0, weight);
            x.pass(1);
            w.due("100 divided by " + (weight + 1), x.board(0, 4), degrees[weight - 1]);
        }
        BeggingBoards cooled = new BeggingBoards();
        cooled.set(3, 9);
        cooled.load(0, 9);
        cooled.pass(1);
        w.due("by the warmth that the zone has in this tick, 109", cooled.board(0, 4), 28);
        w.says("This is its rise.");
        int[] rises = {50, 25, 12, 6, 3, 2, 1, 0, 0};
        BeggingBoards y = Scenes.flatBelt(120, 1);
        y.load(0, 1);
        w.due("none yet", y.board(0, 5), 0);
        for (int rise : rises) {
            y.pass(1);
            w.due("the rise", y.board(0, 5), rise);
        }
        w.says("Its peak is the greatest number of degrees that it ever had;");
        BeggingBoards z = new BeggingBoards();
        z.load(0, 3);
        int[] peaks = {45, 73, 94, 115, 131, 158, 178, 191, 200, 200, 200, 200};
        int[] above = {0, 0, 0, 0, 0, 0, 0, 1, 2, 2, 2, 2};
        for (int tick = 0; tick < 12; tick++) {
            z.pass(1);
            w.due("the peak", z.board(0, 6), peaks[tick]);
            w.due("the ticks above", z.board(0, 7), above[tick]);
        }
        w.due("the degrees", z.board(0, 4), 139);
        w.says("a tick is above if its degrees are above the melting point then.");
        BeggingBoards v = calm(120, 1, 95);
        int[] aboveThen = {0, 0, 1, 2};
        for (int ticks : aboveThen) {
            v.pass(1);
            w.due("70, 95, 107 and 113 degrees against 95", v.board(0, 7), ticks);
        }
        v.setCurve(2, 1, 20);
        w.due("by the melting point then", v.board(0, 7), 2);
    }

    /** A board of the weight 1 on the curve 2, at the speed 1, without pleas, with no fault but by what is set. */
    private static BeggingBoards calm(int target, int what, int value) {
        BeggingBoards x = Scenes.flatBelt(target, 1);
        int[] numbers = {99, 180, 0, 99, 20, 300};
        numbers[what] = value;
        for (int number = 0; number < 6; number++) {
            x.setCurve(2, number, numbers[number]);
        }
        x.load(2, 1);
        return x;
    }

    private static void stepFour(Walk w) {
        w.says("4. A board on the belt pleads for a slower ride"
                + " if its rise is greater than the steepest one of its curve;");
        w.due("50 against 50", pleaAfter(calm(120, 0, 50), 1), 0);
        w.due("50 against 49", pleaAfter(calm(120, 0, 49), 1), SLOWER);
        w.due("25 against 49, in the next tick", pleaAfter(calm(120, 0, 49), 2), 0);
        w.says("otherwise it pleads for a faster ride if its ticks above are more than the most of its curve.");
        BeggingBoards x = calm(120, 1, 20);
        x.setCurve(2, 3, 1);
        w.due("1 against 1", pleaAfter(x, 1), 0);
        w.due("2 against 1", pleaAfter(x, 1), FASTER);
        x.setCurve(2, 0, 11);
        w.due("too steep as well", pleaAfter(x, 1), SLOWER);
        x.setCurve(2, 1, 300);
        w.due("no more above, but still more than the most", pleaAfter(x, 1), FASTER);
        w.says("If the bound is not 0:");
        w.due("the bound 0, and 9 for slower", speedAfterPleas(2, 0, 9, 0), 2);
        w.due("the bound 0, and 9 for faster", speedAfterPleas(2, 0, 0, 9), 2);
        w.due("the bound 0, and none", speedAfterPleas(2, 0, 0, 0), 2);
        w.due("the bound 1, and none", speedAfterPleas(2, 1, 0, 0), 2);
        w.says("if the weights of those who plead for a slower ride, less those of the others who plead,"
                + " are at least the bound, the speed becomes less by 1, but at least 1;");
        w.due("9 against 9", speedAfterPleas(2, 9, 9, 0), 1);
        w.due("9 against 10", speedAfterPleas(2, 10, 9, 0), 2);
        w.due("9 less 4 against 5", speedAfterPleas(2, 5, 9, 4), 1);
        w.due("9 less 5 against 5", speedAfterPleas(2, 5, 9, 5), 2);
        w.due("by 1", speedAfterPleas(3, 1, 9, 0), 2);
        w.due("at least 1", speedAfterPleas(1, 1, 9, 0), 1);
        w.says("if these, less those, are at least the bound, the speed becomes greater by 1, but at most 3.");
        w.due("9 against 9", speedAfterPleas(2, 9, 0, 9), 3);
        w.due("9 against 10", speedAfterPleas(2, 10, 0, 9), 2);
        w.due("9 less 4 against 5", speedAfterPleas(2, 5, 4, 9), 3);
        w.due("9 less 5 against 5", speedAfterPleas(2, 5, 5, 9), 2);
        w.due("as many for both", speedAfterPleas(2, 1, 7, 7), 2);
        w.due("by 1", speedAfterPleas(1, 1, 0, 9), 2);
        w.due("at most 3", speedAfterPleas(3, 1, 0, 9), 3);
        w.says("Then one tick more has passed.");
        BeggingBoards y = new BeggingBoards();
        for (int tick = 0; tick < 5; tick++) {
            w.due("ticks", y.count(0), tick);
            y.pass(1);
        }
        w.due("after all of them", y.count(0), 5);
    }

    private static int pleaAfter(BeggingBoards x, int ticks) {
        x.pass(ticks);
        return x.board(0, 9);
    }

    /** The speed after a tick in which boards of these weights plead for slower and for faster; 0 is no board. */
    private static int speedAfterPleas(int speed, int bound, int forSlower, int forFaster) {
        BeggingBoards x = Scenes.flatBelt(100, 2);
        x.setCurve(0, 0, 1);
        x.setCurve(1, 0, 99);
        x.setCurve(1, 1, 20);
        x.setCurve(1, 3, 0);
        x.load(0, forSlower);
        x.pass(1);
        x.load(1, forFaster);
        x.set(0, speed);
        x.set(2, bound);
        x.pass(1);
        return x.count(7);
    }

    // ---- faults

    private static void kindsOfFaults(Walk w) {
        w.says("of the kind 0 as soon as its rise is greater than the steepest one,");
        w.due("50 against 50", kindsAfter(calm(120, 0, 50), 24), 0);
        w.due("50 against 49", kindsAfter(calm(120, 0, 49), 1), 1);
        w.says("of the kind 1 as soon as its ticks above are more than the most,");
        BeggingBoards x = calm(120, 1, 20);
        x.setCurve(2, 3, 2);
        w.due("2 against 2", kindsAfter(x, 2), 0);
        w.due("3 against 2", kindsAfter(x, 1), 2);
        w.says("of the kind 2 as soon as its degrees are above the highest peak;");
        BeggingBoards y = calm(120, 5, 95);
        w.due("95 against 95", kindsAfter(y, 2), 0);
        w.due("107 against 95", kindsAfter(y, 1), 4);
        w.says("when it has left, of the kind 3 if its ticks above are less than the fewest,");
        for (int fewest = 23; fewest <= 24; fewest++) {
            BeggingBoards z = calm(120, 1, 20);
            z.setCurve(2, 2, fewest);
            w.due("on the belt", kindsAfter(z, 23), 0);
            w.due("23 against " + fewest, kindsAfter(z, 1), fewest == 24 ? 8 : 0);
        }
        w.says("and of the kind 4 if its peak is below the lowest one.");
        for (int lowest = 119; lowest <= 120; lowest++) {
            BeggingBoards z = calm(120, 4, lowest);
            w.due("on the belt", kindsAfter(z, 23), 0);
            w.due("119 against " + lowest, kindsAfter(z, 1), lowest == 120 ? 16 : 0);
        }
        w.says("(All this is looked at in ticks alone, by the curve as it is then.)");
        BeggingBoards z = calm(120, 0, 99);
        z.pass(1);
        z.setCurve(2, 0, 24);
        z.setCurve(2, 5, 20);
        w.due("not by setCurve", z.board(0, 8), 0);
        w.due("but in the next tick, 25 against 24", kindsAfter(z, 1), 5);
        z.setCurve(2, 0, 99);
        z.setCurve(2, 4, 300);
        w.due("nor are faults taken back", kindsAfter(z, 1), 5);
        z.setCurve(2, 4, 119);
        w.due("the lowest peak as it is when it leaves", kindsAfter(z, 21), 5);
    }

    private static int kindsAfter(BeggingBoards x, int ticks) {
        x.pass(ticks);
        return x.board(0, 8);
    }

    private static void whereFaultsWere(Walk w) {
        w.says("For each kind it is kept in which cell the board was then for the first time,");
        BeggingBoards x = Scenes.flatBelt(120, 1);
        x.pass(40);
        x.setCurve(0, 0, 12);
        x.setCurve(0, 1, 106);
        x.setCurve(0, 3, 3);
        x.setCurve(0, 5, 115);
        x.load(0, 1);
        x.pass(24);
        // 70 degrees at once; 107 in the third tick; 116 in the fifth; four ticks above in the sixth.
        int[] cells = {1, 6, 5, NONE, 24};
        for (int kind = 0; kind < 5; kind++) {
            w.due("the cell of the kind " + kind, x.fault(0, kind, 0), cells[kind]);
        }
        w.says("and at which tick (the number of ticks that had passed before this tick);");
        int[] ticks = {40, 45, 44, NONE, 63};
        for (int kind = 0; kind < 5; kind++) {
            w.due("the tick of the kind " + kind, x.fault(0, kind, 1), ticks[kind]);
        }
        w.says("for one that has left the cell is the length of the belt.");
        BeggingBoards y = Scenes.flatBelt(20, 3);
        y.setZone(5, 6, 20, 5);
        y.load(0, 1);
        y.pass(9);
        w.due("in the tick that brings it to cell 27, of 26", y.fault(0, 3, 0), 26);
        w.due("of the kind 4 too", y.fault(0, 4, 0), 26);
    }
}
