import java.io.IOException;

/** Boundary cases of the four steps of a tick, by which pass (promise 7) changes what zone, board and count tell. */
public final class BoundsOfTicksTest {
    private static final int NO_PLEA = 0;
    private static final int SLOWER = 1;
    private static final int FASTER = 2;
    private static final Scene FRESH = Scenes.FRESH;

    private BoundsOfTicksTest() {
    }

    public static void main(String[] args) throws IOException {
        Bounds b = new Bounds("BoundsOfTicksTest", 7, 14, 15, 17);
        theLastCell(b);
        oneThatHasLeftTakesNoPart(b);
        lossOfAZone(b);
        lossOfSeveralBoards(b);
        atLeastTwentyDegrees(b);
        upToTheTarget(b);
        aZoneWithoutBoards(b);
        rise(b);
        riseDownward(b);
        peak(b);
        ticksAbove(b);
        pleasForSlower(b);
        pleasForFaster(b);
        pleaForSlowerGoesFirst(b);
        boundForSlower(b);
        boundForFaster(b);
        oneAgainstTheOther(b);
        boundOfZero(b);
        greatestBound(b);
        slowestAndFastest(b);
        b.end();
    }

    // ---- step 1

    private static Scene belt(int speed, int lastZone) {
        return FRESH.then("the speed " + speed + ", the last zone of " + lastZone + " cells", x -> {
            x.setZone(5, lastZone, 60, 5);
            x.set(0, speed);
            x.set(2, 0);
            x.load(0, 5);
        });
    }

    private static void theLastCell(Bounds b) {
        b.sentence(7, "One that comes beyond the last cell has left");
        for (int speed = 1; speed <= 3; speed++) {
            for (int lastZone = 2; lastZone <= 8; lastZone++) {
                int length = 20 + lastZone;
                int ticks = (length - 1) / speed;
                BeggingBoards x = belt(speed, lastZone).make();
                String name = "the speed " + speed + ", the length " + length + ", ";
                b.due(name + "none leaves before", x.pass(ticks), 0);
                b.due(name + "its cell", x.board(0, 3), speed * ticks);
                b.due(name + "it is on the belt", x.board(0, 2), 0);
                b.due(name + "it leaves", x.pass(1), 1);
                b.due(name + "it has left", x.board(0, 2), 1);
                b.due(name + "it is in no cell", x.board(0, 3), BeggingBoards.NONE);
                b.due(name + "it left at", x.board(0, 10), ticks);
                b.due(name + "it leaves once", x.pass(1), 0);
                b.due(name + "that changes nothing", x.board(0, 10), ticks);
            }
        }
        b.sentence(7, "Each board on the belt goes on by as many cells as the speed");
        for (int speed = 1; speed <= 3; speed++) {
            BeggingBoards x = belt(speed, 4).make();
            x.pass(1);
            b.due("by the speed " + speed, x.board(0, 3), speed);
        }
    }

    private static void oneThatHasLeftTakesNoPart(Bounds b) {
        b.sentence(7, "Each board on the belt becomes warmer");
        Scene last = FRESH.then("a heavy board in the last cell, which pleads", x -> {
            x.setZone(5, 4, 300, 1);
            x.setCurve(0, 0, 1);
            x.set(0, 1);
            x.set(2, 0);
            x.set(3, 9);
            x.load(0, 9);
            x.pass(23);
            x.set(0, 2);
            x.set(2, 1);
        });
        BeggingBoards x = last.make();
        int[] before = new int[11];
        for (int what = 0; what <= 10; what++) {
            before[what] = x.board(0, what);
        }
        int warmth = x.zone(5, 3);
        b.due("it pleads in the last cell", x.board(0, 9), SLOWER);
        b.due("it leaves", x.pass(1), 1);
        int[] mayStay = {0, 1, 4, 5, 6, 7, 9};
        for (int what : mayStay) {
            b.due("what board 0 " + what + " was", x.board(0, what), before[what]);
        }
        b.due("it cools the last zone no more, which gains 1", x.zone(5, 3), warmth + 1);
        b.due("it is not heard", x.count(7) * 10 + x.count(11), 20);
    }

    // ---- step 2

    private static Scene cooling(int target, int power, int drop, int weight) {
        return FRESH.then("zone 0 with the target " + target + " and the power " + power + ", the drop " + drop
                + ", the weight " + weight, x -> {
            x.setZone(0, 4, target, power);
            x.set(0, 1);
            x.set(1, 1);
            x.set(2, 0);
            x.set(3, drop);
            x.load(0, weight);
        });
    }

    private static int warmthAfterOneTick(Scene scene) {
        BeggingBoards x = scene.make();
        x.pass(1);
        return x.zone(0, 3);
    }

    private static void lossOfAZone(Bounds b) {
        b.sentence(15, "Each zone loses drop times the weights of all boards in it together, divided by 5");
        for (int drop = 0; drop <= 9; drop++) {
            for (int weight = 1; weight <= 9; weight++) {
                int loss = 0;
                for (int fives = drop * weight; fives >= 5; fives -= 5) {
                    loss++;
                }
                b.due("drop " + drop + ", weight " + weight, warmthAfterOneTick(cooling(200, 1, drop, weight)),
                        loss == 0 ? 200 : 200 - loss + 1);
            }
        }
        b.sentence(15, "Where something is divided, the result is rounded toward 0");
        b.due("9 / 5 and the power 1", warmthAfterOneTick(cooling(200, 1, 1, 9)), 200);
        b.due("10 / 5 and the power 1", warmthAfterOneTick(cooling(200, 1, 2, 5)), 199);
        b.due("14 / 5 and the power 1", warmthAfterOneTick(cooling(200, 1, 7, 2)), 199);
        b.due("15 / 5 and the power 1", warmthAfterOneTick(cooling(200, 1, 5, 3)), 198);
        b.due("81 / 5 and the power 1", warmthAfterOneTick(cooling(200, 1, 9, 9)), 185);
    }

    private static void lossOfSeveralBoards(Bounds b) {
        b.sentence(15, "the weights of all boards in it together");
        BeggingBoards x = cooling(200, 1, 2, 4).make();
        x.pass(1);
        b.due("8 / 5 and the power 1", x.zone(0, 3), 200);
        x.load(0, 4);
        x.pass(1);
        b.due("16 / 5 and the power 1, not twice 8 / 5", x.zone(0, 3), 198);
        BeggingBoards y = FRESH.then("as many as a zone can hold", z -> {
            z.setZone(0, 8, 300, 1);
            z.set(0, 1);
            z.set(1, 1);
            z.set(2, 0);
            z.set(3, 0);
            for (int board = 0; board < 7; board++) {
                z.load(0, 9);
                z.pass(1);
            }
            z.set(3, 9);
        }).make();
        b.due("seven boards", y.zone(0, 5) * 100 + y.zone(0, 6), 763);
        b.due("nothing is lost by the drop 0", y.zone(0, 3), 300);
        y.pass(1);
        // Six stay: the seventh goes on from cell 7 to zone 1.
        b.due("9 times 54, divided by 5, and the power 1", y.zone(0, 3), 300 - 97 + 1);
        b.due("the last one is in zone 1, which loses 16 and gains 5", y.zone(1, 3), 160 - 16 + 5);
    }

    private static void atLeastTwentyDegrees(Bounds b) {
        b.sentence(15, "but is at least 20 degrees warm; then it gains its power");
        // 81 / 5 is 16.
        b.due("37, less 16, is 21, and 1", warmthAfterOneTick(cooling(37, 1, 9, 9)), 22);
        b.due("36, less 16, is 20, and 1", warmthAfterOneTick(cooling(36, 1, 9, 9)), 21);
        b.due("35, less 16, but 20, and 1", warmthAfterOneTick(cooling(35, 1, 9, 9)), 21);
        b.due("21, less 16, but 20, and 1", warmthAfterOneTick(cooling(21, 1, 9, 9)), 21);
        b.due("20, less 16, but 20, up to the target", warmthAfterOneTick(cooling(20, 1, 9, 9)), 20);
        b.due("20, less 16, but 20, up to the target", warmthAfterOneTick(cooling(20, 20, 9, 9)), 20);
    }

    private static void upToTheTarget(Bounds b) {
        b.sentence(15, "then it gains its power, up to its target, if it is below it");
        b.due("16 below, the power 1", warmthAfterOneTick(cooling(200, 1, 9, 9)), 185);
        b.due("16 below, the power 15", warmthAfterOneTick(cooling(200, 15, 9, 9)), 199);
        b.due("16 below, the power 16", warmthAfterOneTick(cooling(200, 16, 9, 9)), 200);
        b.due("16 below, the power 17", warmthAfterOneTick(cooling(200, 17, 9, 9)), 200);
        b.due("16 below, the power 20", warmthAfterOneTick(cooling(200, 20, 9, 9)), 200);
        b.due("16 below the greatest target", warmthAfterOneTick(cooling(300, 20, 9, 9)), 300);
        b.sentence(15, "or loses its power, down to its target, if it is above it");
        b.due("at the target it neither gains nor loses", warmthAfterOneTick(cooling(200, 20, 0, 9)), 200);
        b.due("nor at the smallest target", warmthAfterOneTick(cooling(20, 20, 0, 1)), 20);
    }

    private static void aZoneWithoutBoards(Bounds b) {
        b.sentence(15, "then it gains its power, up to its target, if it is below it");
        BeggingBoards x = cooling(200, 7, 9, 9).make();
        x.pass(1);
        b.due("cooled by 16, warmed by 7", x.zone(0, 3), 191);
        x.takeOff(0);
        x.pass(1);
        b.due("by 7 more", x.zone(0, 3), 198);
        x.pass(1);
        b.due("up to the target", x.zone(0, 3), 200);
        x.pass(99);
        b.due("where it stays", x.zone(0, 3), 200);
    }

    // ---- step 3

    private static Scene oneBoard(int target, int weight) {
        return Scenes.flat(target).then("the weight " + weight, x -> x.load(0, weight));
    }

    private static void rise(Bounds b) {
        b.sentence(17, "becomes warmer by the warmth of its zone less its own degrees, divided by its weight and 1 together");
        for (int weight = 1; weight <= 9; weight++) {
            riseIs(b, 20, weight, 0);
            riseIs(b, 20 + weight, weight, 0);
            riseIs(b, 20 + weight + 1, weight, 1);
            riseIs(b, 20 + 2 * weight + 1, weight, 1);
            riseIs(b, 20 + 2 * weight + 2, weight, 2);
            riseIs(b, 300, weight, new int[] {140, 93, 70, 56, 46, 40, 35, 31, 28}[weight - 1]);
        }
    }

    private static void riseIs(Bounds b, int target, int weight, int rise) {
        BeggingBoards x = oneBoard(target, weight).make();
        x.pass(1);
        String name = "the target " + target + ", the weight " + weight + ", ";
        b.due(name + "the rise", x.board(0, 5), rise);
        b.due(name + "the degrees", x.board(0, 4), 20 + rise);
        b.due(name + "the peak", x.board(0, 6), 20 + rise);
    }

    /** A board with 30 degrees comes from zone 0 to zone 1. */
    private static BeggingBoards cooledIn(int target) {
        BeggingBoards x = Scenes.flat(40).then("zone 1 has the target " + target, y -> {
            y.setZone(0, 2, 40, 5);
            y.setZone(1, 4, target, 5);
            y.set(0, 1);
            y.load(0, 1);
            y.pass(2);
        }).make();
        return x;
    }

    private static void riseDownward(Bounds b) {
        b.sentence(17, "Where something is divided, the result is rounded toward 0");
        int[][] cases = {{33, 1, 31}, {32, 1, 31}, {31, 0, 30}, {30, 0, 30}, {29, 0, 30}, {28, -1, 29}, {27, -1, 29},
            {26, -2, 28}, {20, -5, 25}};
        for (int[] row : cases) {
            BeggingBoards x = cooledIn(row[0]);
            b.due("30 degrees in a zone of " + row[0] + ", the rise", x.board(0, 5), row[1]);
            b.due("30 degrees in a zone of " + row[0] + ", the degrees", x.board(0, 4), row[2]);
        }
    }

    private static void peak(Bounds b) {
        b.sentence(17, "Its peak is the greatest number of degrees that it ever had");
        b.due("one degree more", cooledIn(32).board(0, 6), 31);
        b.due("as many degrees", cooledIn(30).board(0, 6), 30);
        b.due("one degree less", cooledIn(28).board(0, 6), 30);
        BeggingBoards x = oneBoard(20, 1).make();
        x.pass(5);
        b.due("never warmer than at first", x.board(0, 6), 20);
    }

    private static void ticksAbove(Bounds b) {
        b.sentence(17, "a tick is above if its degrees are above the melting point then");
        // After its first tick the board has 70 degrees, or 20, 21, 160.
        aboveIs(b, 120, 69, 1);
        aboveIs(b, 120, 70, 0);
        aboveIs(b, 120, 71, 0);
        aboveIs(b, 20, 20, 0);
        aboveIs(b, 22, 20, 1);
        aboveIs(b, 22, 21, 0);
        aboveIs(b, 300, 300, 0);
        BeggingBoards x = Scenes.flat(300).then("a light board", y -> {
            y.set(0, 1);
            y.setCurve(0, 1, 298);
            y.load(0, 1);
            y.pass(23);
        }).make();
        b.due("the greatest degrees", x.board(0, 4), 299);
        // 160, 230, 265, 282, 291, 295, 297, 298, and 299 from the ninth tick on.
        b.due("299 is above 298 in 15 of 23 ticks", x.board(0, 7), 15);
        BeggingBoards z = oneBoard(120, 1).make();
        z.setCurve(0, 1, 70);
        z.pass(1);
        z.setCurve(0, 1, 69);
        b.due("by the melting point then, not by the later one", z.board(0, 7), 0);
    }

    private static void aboveIs(Bounds b, int target, int melting, int ticks) {
        BeggingBoards x = oneBoard(target, 1).make();
        x.setCurve(0, 1, melting);
        x.pass(1);
        b.due("the target " + target + ", the melting point " + melting, x.board(0, 7), ticks);
    }

    // ---- step 4

    private static int pleaAtRise(int target, int steepest) {
        BeggingBoards x = oneBoard(target, 1).make();
        x.setCurve(0, 0, steepest);
        x.pass(1);
        return x.board(0, 9);
    }

    private static void pleasForSlower(Bounds b) {
        b.sentence(17, "pleads for a slower ride if its rise is greater than the steepest one of its curve");
        b.due("a rise of 10 against 9", pleaAtRise(40, 9), SLOWER);
        b.due("a rise of 10 against 10", pleaAtRise(40, 10), NO_PLEA);
        b.due("a rise of 10 against 11", pleaAtRise(40, 11), NO_PLEA);
        b.due("a rise of 0 against 1", pleaAtRise(20, 1), NO_PLEA);
        b.due("a rise of 1 against 1", pleaAtRise(22, 1), NO_PLEA);
        b.due("a rise of 2 against 1", pleaAtRise(24, 1), SLOWER);
        b.due("a rise of 99 against 99", pleaAtRise(218, 99), NO_PLEA);
        b.due("a rise of 100 against 99", pleaAtRise(220, 99), SLOWER);
    }

    /** A board that is above in each tick; it does not plead for a slower ride. */
    private static Scene melting(int most, int weight) {
        return Scenes.flat(60).then("at most " + most + " ticks above, the weight " + weight, x -> {
            x.setCurve(0, 0, 99);
            x.setCurve(0, 1, 20);
            x.setCurve(0, 3, most);
            x.set(0, 1);
            x.load(0, weight);
        });
    }

    private static void pleasForFaster(Bounds b) {
        b.sentence(17, "otherwise it pleads for a faster ride if its ticks above are more than the most of its curve");
        for (int most = 0; most <= 3; most++) {
            BeggingBoards x = melting(most, 1).make();
            for (int ticks = 1; ticks <= 5; ticks++) {
                x.pass(1);
                b.due("ticks", x.board(0, 7), ticks);
                b.due(ticks + " ticks above against " + most, x.board(0, 9), ticks > most ? FASTER : NO_PLEA);
            }
        }
        BeggingBoards never = oneBoard(20, 1).then("no tick above, and at most 0", x -> x.setCurve(0, 3, 0)).make();
        never.pass(1);
        b.due("0 ticks above against 0", never.board(0, 9), NO_PLEA);
        BeggingBoards longest = Scenes.flat(60).then("the most ticks, and the longest belt", x -> {
            for (int zone = 0; zone < 6; zone++) {
                x.setZone(zone, 8, 60, 5);
            }
            x.set(0, 1);
            x.setCurve(0, 1, 20);
            x.setCurve(0, 3, 99);
            x.load(0, 1);
            x.pass(47);
        }).make();
        b.due("47 ticks above against 99", longest.board(0, 7) * 10 + longest.board(0, 9), 470);
        longest.setCurve(0, 3, 46);
        b.due("the plea is that of the latest tick", longest.board(0, 9), NO_PLEA);
    }

    private static void pleaForSlowerGoesFirst(Bounds b) {
        b.sentence(17, "otherwise it pleads for a faster ride");
        // A rise of 20, and one tick above.
        b.due("both, a rise of 20 against 19", bothPleas(19), SLOWER);
        b.due("the second alone, a rise of 20 against 20", bothPleas(20), FASTER);
    }

    private static int bothPleas(int steepest) {
        BeggingBoards x = melting(0, 1).make();
        x.setCurve(0, 0, steepest);
        x.pass(1);
        return x.board(0, 9);
    }

    /** Boards that plead for a slower ride in each tick, one behind another; of them all plead in the next tick. */
    private static Scene slower(int bound, int... weights) {
        return Scenes.flat(300).then("the bound " + bound, x -> {
            x.setCurve(0, 0, 1);
            x.set(1, 1);
            loadOneAfterAnother(x, weights);
            x.set(2, bound);
        });
    }

    private static Scene faster(int bound, int... weights) {
        return Scenes.flat(100).then("the bound " + bound, x -> {
            x.setCurve(0, 0, 99);
            x.setCurve(0, 1, 20);
            x.setCurve(0, 3, 0);
            x.set(1, 1);
            loadOneAfterAnother(x, weights);
            x.set(2, bound);
        });
    }

    private static void loadOneAfterAnother(BeggingBoards x, int[] weights) {
        for (int board = 0; board < weights.length; board++) {
            if (board > 0) {
                x.pass(1);
            }
            x.load(0, weights[board]);
        }
    }

    private static void speedIs(Bounds b, Scene scene, int speed, int slowed, int hastened) {
        BeggingBoards x = scene.make();
        x.pass(1);
        b.due(scene.name + ", the speed then", x.count(7), speed);
        b.due(scene.name + ", less by pleas", x.count(11), slowed);
        b.due(scene.name + ", greater by pleas", x.count(12), hastened);
    }

    private static void boundForSlower(Bounds b) {
        b.sentence(14, "are at least the bound, the speed becomes less by 1, but at least 1");
        for (int weight = 1; weight <= 9; weight++) {
            speedIs(b, slower(weight, weight), 1, 1, 0);
            speedIs(b, slower(weight + 1, weight), 2, 0, 0);
            if (weight > 1) {
                speedIs(b, slower(weight - 1, weight), 1, 1, 0);
            }
        }
        speedIs(b, slower(7, 3, 4), 1, 1, 0);
        speedIs(b, slower(8, 3, 4), 2, 0, 0);
    }

    private static void boundForFaster(Bounds b) {
        b.sentence(14, "if these, less those, are at least the bound, the speed becomes greater by 1, but at most 3");
        for (int weight = 1; weight <= 9; weight++) {
            speedIs(b, faster(weight, weight), 3, 0, 1);
            speedIs(b, faster(weight + 1, weight), 2, 0, 0);
            if (weight > 1) {
                speedIs(b, faster(weight - 1, weight), 3, 0, 1);
            }
        }
        speedIs(b, faster(7, 3, 4), 3, 0, 1);
        speedIs(b, faster(8, 3, 4), 2, 0, 0);
    }

    /** A board that pleads for a slower ride, and one that pleads for a faster one, in the next tick. */
    private static Scene against(int bound, int forSlower, int forFaster) {
        return Scenes.flat(300).then(forSlower + " against " + forFaster + ", the bound " + bound, x -> {
            x.setCurve(0, 0, 1);
            x.setCurve(1, 0, 99);
            x.setCurve(1, 1, 20);
            x.setCurve(1, 3, 0);
            x.set(1, 1);
            x.load(1, forFaster);
            x.pass(1);
            x.load(0, forSlower);
            x.set(2, bound);
        });
    }

    private static void oneAgainstTheOther(Bounds b) {
        b.sentence(14, "if the weights of those who plead for a slower ride, less those of the others who plead");
        // The weight 2 and more: a rise of less than 100.
        speedIs(b, against(1, 5, 5), 2, 0, 0);
        speedIs(b, against(1, 6, 5), 1, 1, 0);
        speedIs(b, against(2, 6, 5), 2, 0, 0);
        speedIs(b, against(1, 5, 6), 3, 0, 1);
        speedIs(b, against(2, 5, 6), 2, 0, 0);
        speedIs(b, against(7, 9, 2), 1, 1, 0);
        speedIs(b, against(8, 9, 2), 2, 0, 0);
        speedIs(b, against(7, 2, 9), 3, 0, 1);
        speedIs(b, against(8, 2, 9), 2, 0, 0);
    }

    private static void boundOfZero(Bounds b) {
        b.sentence(14, "0: pleas are not heard");
        speedIs(b, slower(0, 9), 2, 0, 0);
        speedIs(b, slower(1, 1), 1, 1, 0);
        speedIs(b, faster(0, 9), 2, 0, 0);
        speedIs(b, faster(1, 1), 3, 0, 1);
        speedIs(b, against(0, 5, 5), 2, 0, 0);
        b.sentence(14, "If the bound is not 0");
        BeggingBoards x = slower(0, 9).make();
        x.pass(1);
        b.due("it pleads all the same", x.board(0, 9), SLOWER);
        speedIs(b, FRESH.then("an empty belt, the bound 0", y -> y.set(2, 0)), 2, 0, 0);
        speedIs(b, FRESH.then("an empty belt, the bound 1", y -> y.set(2, 1)), 2, 0, 0);
        speedIs(b, FRESH.then("one that does not plead, the bound 1", y -> {
            y.set(2, 1);
            y.load(0, 9);
        }), 2, 0, 0);
        speedIs(b, slower(1, 9).then("it was taken off", y -> y.takeOff(0)), 2, 0, 0);
    }

    private static void greatestBound(Bounds b) {
        b.sentence(14, "a bound for pleas of 0 to 99");
        speedIs(b, slower(98, 9, 9, 9, 9, 9, 9, 9, 9, 9, 9, 8), 1, 1, 0);
        speedIs(b, slower(99, 9, 9, 9, 9, 9, 9, 9, 9, 9, 9, 8), 2, 0, 0);
        speedIs(b, slower(99, 9, 9, 9, 9, 9, 9, 9, 9, 9, 9, 9), 1, 1, 0);
        speedIs(b, faster(98, 9, 9, 9, 9, 9, 9, 9, 9, 9, 9, 8), 3, 0, 1);
        speedIs(b, faster(99, 9, 9, 9, 9, 9, 9, 9, 9, 9, 9, 8), 2, 0, 0);
        speedIs(b, faster(99, 9, 9, 9, 9, 9, 9, 9, 9, 9, 9, 9), 3, 0, 1);
    }

    private static void slowestAndFastest(Bounds b) {
        b.sentence(14, "the speed becomes less by 1, but at least 1");
        int[][] down = {{3, 2, 1}, {2, 1, 1}, {1, 1, 0}};
        for (int[] row : down) {
            speedIs(b, slower(1, 9).then("the speed " + row[0], x -> x.set(0, row[0])), row[1], row[2], 0);
        }
        BeggingBoards x = slower(1, 9).then("the speed 3", y -> y.set(0, 3)).make();
        x.pass(3);
        b.due("three ticks of pleas, from 3 to 1", x.count(7) * 100 + x.count(11) * 10 + x.count(12), 120);
        b.sentence(14, "the speed becomes greater by 1, but at most 3");
        int[][] up = {{1, 2, 1}, {2, 3, 1}, {3, 3, 0}};
        for (int[] row : up) {
            speedIs(b, faster(1, 9).then("the speed " + row[0], y -> y.set(0, row[0])), row[1], 0, row[2]);
        }
        BeggingBoards z = faster(1, 9).then("the speed 1", y -> y.set(0, 1)).make();
        z.pass(3);
        b.due("three ticks of pleas, from 1 to 3", z.count(7) * 100 + z.count(11) * 10 + z.count(12), 302);
        b.sentence(14, "11 how often the speed became less by pleas, 12 how often it became greater");
        BeggingBoards w = FRESH.make();
        w.set(0, 1);
        w.set(0, 3);
        w.set(0, 1);
        b.due("set() is no plea", w.count(11) + w.count(12), 0);
    }
}
