import java.io.IOException;

/** The states in which the boundary cases are tried are what they are said to be. */
public final class ScenesTest {
    private ScenesTest() {
    }

    public static void main(String[] args) throws IOException {
        Check check = new Check("ScenesTest");
        fresh(check);
        busy(check);
        full(check);
        late(check);
        emptied(check);
        whatIsToldDiffers(check);
        check.end();
    }

    private static void fresh(Check check) {
        check.holds("a new object", Looking.atAll(Scenes.FRESH.make()).equals(Looking.atAll(new BeggingBoards())));
    }

    private static void busy(Check check) {
        BeggingBoards x = Scenes.BUSY.make();
        check.holds("on the belt, left and taken off: " + x.count(2) + " " + x.count(3) + " " + x.count(5),
                x.count(2) > 1 && x.count(3) > 1 && x.count(5) > 0);
        check.due("states", x.count(14), 5);
        check.due("snapshots", x.count(13), 2);
        check.due("a board in the gap", x.room() > 0 ? 1 : 0, 1);
        check.holds("pleas of both kinds: " + x.count(11) + " " + x.count(12), x.count(11) > 0 && x.count(12) > 0);
        for (int kind = 0; kind < 5; kind++) {
            check.holds("a fault of the kind " + kind, x.worstCell(kind, 1) > 0);
        }
        check.due("the text", x.carryOut(), 3);
    }

    private static void full(Check check) {
        BeggingBoards x = Scenes.FULL.make();
        check.due("loaded", x.count(1), 30);
        check.due("on the belt", x.count(2) > 0 ? 1 : 0, 1);
        check.due("none in the gap", x.room(), 0);
        check.due("states", x.count(14), 5);
        check.due("snapshots", x.count(13), 2);
        check.due("characters", x.count(15), 100);
        check.due("the text", x.carryOut(), 33);
    }

    private static void late(Check check) {
        BeggingBoards x = Scenes.LATE.make();
        check.due("ticks", x.count(0), 5000);
        check.due("on the belt", x.count(2), 1);
        check.due("none in the gap", x.room(), 0);
        check.due("the text", x.carryOut(), 1);
    }

    private static void emptied(Check check) {
        BeggingBoards x = Scenes.EMPTIED.make();
        check.due("on the belt, left, taken off", x.count(2) * 100 + x.count(3) * 10 + x.count(5), 21);
        check.due("states", x.count(14), 4);
        check.due("snapshots", x.count(13), 1);
        check.due("the text", x.carryOut(), 2);
    }

    /** Only so can it be seen by what is told that a call changed nothing. */
    private static void whatIsToldDiffers(Check check) {
        Scene busy = Scenes.BUSY;
        Scene.Call[] changes = {
            x -> x.append(';'), x -> x.clearText(), x -> x.undo(), x -> x.take(0), x -> x.take(1), x -> x.restore(0),
            x -> x.set(3, 4), x -> x.set(0, 2), x -> x.setCurve(3, 5, 299), x -> x.pass(1), x -> x.takeOff(8),
            x -> x.carryOut(), x -> x.clearText() + x.append('p') + x.append('1')};
        for (int i = 0; i < changes.length; i++) {
            check.holds("the change " + i + " is told", !busy.toldAfter(changes[i]).equals(busy.told()));
        }
        check.holds("no change is told", busy.toldAfter(x -> x.count(0)).equals(busy.told()));
    }
}
