import java.io.IOException;

/** Boundary cases of the promises 11 to 13: append, clearText, carryOut. */
public final class BoundsOfTextTest {
    private static final int INVALID = BeggingBoards.INVALID_ARGUMENT;
    private static final int FULL = BeggingBoards.CAPACITY_EXCEEDED;
    private static final Scene FRESH = Scenes.FRESH;

    private BoundsOfTextTest() {
    }

    public static void main(String[] args) throws IOException {
        Bounds b = new Bounds("BoundsOfTextTest", 11, 12, 13);
        appendOutside(b);
        appendInside(b);
        hundredCharacters(b);
        clearText(b);
        emptyText(b);
        endsTooEarly(b);
        oneOrTwoDigits(b);
        firstOfTwoIsNotZero(b);
        everyCharacterAtEveryPlace(b);
        firstCharacterThatIsNotAllowed(b);
        faultAtTheEndOfAFullText(b);
        aTextWithAFaultChangesNothing(b);
        oneOrMoreOrders(b);
        numbersOfLoad(b);
        numbersOfPass(b);
        numbersOfTakeOff(b);
        numbersOfSpeed(b);
        upToTheFirstError(b);
        oneTextAfterAnother(b);
        oneAction(b);
        alsoIfNoOrderIsCarriedOut(b);
        b.end();
    }

    private static Scene text(String text) {
        return FRESH.then("the text '" + text + "'", x -> Scenes.write(x, text));
    }

    private static String times(String characters, int howOften) {
        return characters.repeat(howOften);
    }

    // ---- promise 11

    private static void appendOutside(Bounds b) {
        b.sentence(11, "`character`: character code, 1 to 255");
        b.outside(Scenes.ALL, "append(..)", 1, 255, BeggingBoards::append);
        b.refuses(FRESH, "append(65536 + 'p')", INVALID, x -> x.append(65536 + 'p'));
        b.sentence(11, "If several error conditions apply");
        b.outside(new Scene[] {text(times("p", 100))}, "append(..) to 100 characters", 1, 255, BeggingBoards::append);
    }

    private static void appendInside(Bounds b) {
        b.sentence(11, "Returns the new length of the text");
        for (Scene scene : Scenes.ALL) {
            int length = scene.make().count(15);
            if (length < 100) {
                isAppended(b, scene, 1, length + 1);
                isAppended(b, scene, 'p', length + 1);
                isAppended(b, scene, 255, length + 1);
            }
        }
    }

    private static void isAppended(Bounds b, Scene scene, int character, int length) {
        String call = scene.name + ": append(" + character + ")";
        BeggingBoards x = scene.make();
        int states = x.count(14);
        b.due(call, x.append(character), length);
        b.due(call + ", the length", x.count(15), length);
        b.due(call + ", is no action", x.count(14), states);
        b.holds(call + ", changes nothing else",
                scene.ovenAfter(y -> y.append(character), y -> 0).equals(scene.ovenAfter(y -> 0, y -> 0)));
    }

    private static void hundredCharacters(Bounds b) {
        b.sentence(11, "There is a text of at most 100 characters, empty at first");
        BeggingBoards x = FRESH.make();
        b.due("at first", x.count(15), 0);
        for (int length = 1; length <= 100; length++) {
            b.due("append", x.append(length), length);
        }
        b.due("the length", x.count(15), 100);
        b.sentence(11, "CAPACITY_EXCEEDED if the text already has 100 characters");
        b.due("the 99th and the 100th", text(times("p", 99)).make().append('1'), 100);
        Scene full = text(times("p", 100));
        b.refuses(full, "append('1')", FULL, y -> y.append('1'));
        b.refuses(full, "append(1)", FULL, y -> y.append(1));
        b.refuses(full, "append(255)", FULL, y -> y.append(255));
        b.refuses(Scenes.FULL, "append(';')", FULL, y -> y.append(';'));
        BeggingBoards cleared = full.then("it was cleared", BeggingBoards::clearText).make();
        b.due("append to the text that was cleared", cleared.append('p'), 1);
        BeggingBoards carriedOut = text(Scenes.fullOfOrders()).then("it was carried out", BeggingBoards::carryOut).make();
        b.due("append to the text that was carried out", carriedOut.append('p'), 1);
    }

    // ---- promise 12

    private static void clearText(Bounds b) {
        b.sentence(12, "Returns the previous length of the text");
        b.tells(FRESH, "clearText()", 0, BeggingBoards::clearText);
        int[] lengths = {1, 2, 99, 100};
        for (int length : lengths) {
            BeggingBoards x = text(times("s1;", 34).substring(0, length)).make();
            b.due("clearText()", x.clearText(), length);
            b.due("clearText() again", x.clearText(), 0);
            b.due("is no action", x.count(14), 0);
        }
        b.sentence(12, "Makes the text empty");
        for (Scene scene : Scenes.ALL) {
            BeggingBoards x = scene.make();
            BeggingBoards before = scene.make();
            b.due("clearText()", x.clearText(), before.count(15));
            b.due("the length", x.count(15), 0);
            b.due("the states", x.count(14), before.count(14));
            b.holds("nothing else changes",
                    scene.ovenAfter(BeggingBoards::clearText, y -> 0).equals(scene.ovenAfter(y -> 0, y -> 0)));
            b.due("carryOut() of the empty text", x.carryOut(), -2000);
        }
    }

    // ---- promise 13: the fault of the text

    private static void fault(Bounds b, String text, int fault) {
        BeggingBoards x = text(text).make();
        b.due("the fault of '" + text + "'", x.carryOut(), -2000 - fault);
        b.due("the text '" + text + "' stays", x.count(15), text.length());
    }

    private static void noFault(Bounds b, String text) {
        BeggingBoards x = text(text).make();
        b.holds("'" + text + "' has no fault", x.carryOut() >= 0);
        b.due("the text '" + text + "' is emptied", x.count(15), 0);
    }

    private static void emptyText(Bounds b) {
        b.sentence(13, "or the length of the text if it ends too early (as the empty text does)");
        b.refuses(FRESH, "carryOut()", -2000, BeggingBoards::carryOut);
        b.refuses(text("p1").then("cleared", BeggingBoards::clearText), "carryOut()", -2000, BeggingBoards::carryOut);
        b.refuses(text("p1").then("carried out", BeggingBoards::carryOut), "carryOut()", -2000, BeggingBoards::carryOut);
    }

    private static void endsTooEarly(Bounds b) {
        b.sentence(13, "or the length of the text if it ends too early");
        String[] early = {"l", "l0", "l3", "l10", "l0,", "l10,", "p", "t", "s", "p1;", "p10;", "p1;l", "p1;l2,", "p1;p"};
        for (String text : early) {
            b.refuses(text(text), "carryOut()", -2000 - text.length(), BeggingBoards::carryOut);
        }
        String[] justEnough = {"l0,1", "l10,1", "p1", "t0", "s1", "p1;p1", "p1;l2,1"};
        for (String text : justEnough) {
            noFault(b, text);
        }
    }

    private static void oneOrTwoDigits(Bounds b) {
        b.sentence(13, "A number is one or two digits");
        String[] right = {"p0", "p1", "p9", "p10", "p19", "p90", "p99", "l0,0", "l9,9", "l10,10", "l99,99", "t0", "t99",
            "s0", "s99"};
        for (String text : right) {
            noFault(b, text);
        }
        String[] none = {"p", "t", "s", "l", "l0,", "l99,"};
        for (String text : none) {
            fault(b, text, text.length());
            fault(b, text + ";", text.length());
        }
        String[] three = {"p100", "p999", "t100", "s100", "l0,100", "l10,999"};
        for (String text : three) {
            fault(b, text, text.length() - 1);
        }
        fault(b, "l100,1", 3);
        fault(b, "l999,1", 3);
    }

    private static void firstOfTwoIsNotZero(Bounds b) {
        b.sentence(13, "the first of two not 0");
        String[] wrong = {"p00", "p01", "p09", "t00", "t09", "s01", "l1,00", "l1,09", "l10,01"};
        for (String text : wrong) {
            fault(b, text, text.length() - 1);
        }
        fault(b, "l00,1", 2);
        fault(b, "l01,1", 2);
        fault(b, "l09,1", 2);
        noFault(b, "p0;p0");
        noFault(b, "l0,0;l0,0");
        noFault(b, "p10;p20;t30");
    }

    private static void everyCharacterAtEveryPlace(Bounds b) {
        b.sentence(13, "An order is \"l\" curve \",\" weight (load), \"p\" ticks (pass), \"t\" board (take off), \"s\" speed");
        // What stands before the place, and the characters that are allowed there.
        String[][] places = {
            {"", "lpts"}, {"l", "0123456789"}, {"l0", ","}, {"l1", "0123456789,"}, {"l9", "0123456789,"}, {"l10", ","},
            {"l1,", "0123456789"}, {"l1,0", ";"}, {"l1,1", "0123456789;"}, {"l1,9", "0123456789;"}, {"l1,10", ";"},
            {"p", "0123456789"}, {"p0", ";"}, {"p1", "0123456789;"}, {"p9", "0123456789;"}, {"p99", ";"},
            {"t", "0123456789"}, {"t0", ";"}, {"t2", "0123456789;"}, {"t20", ";"},
            {"s", "0123456789"}, {"s0", ";"}, {"s3", "0123456789;"}, {"s30", ";"}, {"p1;", "lpts"}, {"l1,1;", "lpts"}};
        for (String[] place : places) {
            for (int character = 1; character <= 255; character++) {
                BeggingBoards x = text(place[0]).make();
                x.append(character);
                int answer = x.carryOut();
                boolean isWrong = answer == -2000 - place[0].length();
                b.holds("after '" + place[0] + "' the character " + character + " is allowed or not",
                        isWrong == (place[1].indexOf(character) < 0));
            }
        }
    }

    private static void firstCharacterThatIsNotAllowed(Bounds b) {
        b.sentence(13, "the index, from 0, of the first character that is not allowed at its place");
        fault(b, "xyz", 0);
        fault(b, "px1", 1);
        fault(b, "p1x;x", 2);
        fault(b, "p1;x;p01", 3);
        fault(b, "p1;;x", 3);
        fault(b, "p1;l1;2", 5);
        fault(b, "p01;l", 2);
        fault(b, times("p1;", 33) + "x", 99);
        fault(b, times("x", 100), 0);
        fault(b, "p1" + times("x", 98), 2);
    }

    private static void faultAtTheEndOfAFullText(Bounds b) {
        b.sentence(13, "-2000 minus the fault of the text if it has one");
        String orders = times("p1;", 33);
        b.refuses(text(orders + "p"), "100 characters, of which the last order is too short", -2100,
                BeggingBoards::carryOut);
        b.refuses(text(orders + ";"), "the last of 100 characters is wrong", -2099, BeggingBoards::carryOut);
        b.refuses(text(orders), "99 characters, and nothing after the last ';'", -2099, BeggingBoards::carryOut);
        b.refuses(text("p10;" + times("p1;", 32)), "100 characters, and nothing after the last ';'", -2100,
                BeggingBoards::carryOut);
        b.refuses(text(orders.substring(0, 98) + "p0"), "the last of 100 characters is wrong", -2098,
                BeggingBoards::carryOut);
        b.due("100 characters without a fault", text(Scenes.fullOfOrders()).make().carryOut(), 33);
        b.due("98 characters without a fault", text(orders.substring(0, 98)).make().carryOut(), 33);
        b.due("fifty ticks", text(Scenes.fullOfOrders()).then("", BeggingBoards::carryOut).make().count(0), 50);
    }

    private static void aTextWithAFaultChangesNothing(Bounds b) {
        b.sentence(13, "-2000 minus the fault of the text if it has one (which is an error)");
        for (Scene scene : Scenes.ALL) {
            Scene wrong = scene.then("a text of which the last character is wrong", x -> {
                x.clearText();
                Scenes.write(x, "s3;p9;t0;l0,1;p01");
            });
            b.refuses(wrong, "carryOut()", -2016, BeggingBoards::carryOut);
        }
        BeggingBoards x = text("p").make();
        b.due("too short", x.carryOut(), -2001);
        b.due("once more", x.carryOut(), -2001);
        x.append('5');
        b.due("gone on with", x.carryOut(), 1);
        b.due("five ticks", x.count(0), 5);
    }

    // ---- promise 13: the orders

    private static BeggingBoards carriedOut(Bounds b, Scene before, String text, int orders) {
        BeggingBoards x = before.make();
        x.clearText();
        Scenes.write(x, text);
        b.due(before.name + ": the orders that are carried out of '" + text + "'", x.carryOut(), orders);
        b.due(before.name + ": the length of the text after '" + text + "'", x.count(15), 0);
        return x;
    }

    private static void oneOrMoreOrders(Bounds b) {
        b.sentence(13, "A text of orders is one or more orders with \";\" between two");
        b.due("one", carriedOut(b, FRESH, "p1", 1).count(0), 1);
        b.due("two", carriedOut(b, FRESH, "p1;p2", 2).count(0), 3);
        b.due("thirty-three", carriedOut(b, FRESH, times("p1;", 32) + "p1", 33).count(0), 33);
        fault(b, ";p1", 0);
        fault(b, "p1;", 3);
        fault(b, "p1;;p1", 3);
        fault(b, "p1p1", 2);
    }

    private static void numbersOfLoad(Bounds b) {
        b.sentence(13, "\"l\" curve \",\" weight (load)");
        String[] right = {"l0,1", "l0,9", "l3,1", "l3,9"};
        for (String text : right) {
            BeggingBoards x = carriedOut(b, FRESH, text, 1);
            b.due("the curve by '" + text + "'", x.board(0, 0), text.charAt(1) - '0');
            b.due("the weight by '" + text + "'", x.board(0, 1), text.charAt(3) - '0');
        }
        String[] wrong = {"l4,1", "l10,1", "l99,9", "l0,0", "l3,10", "l3,99", "l4,0"};
        for (String text : wrong) {
            b.due("no board by '" + text + "'", carriedOut(b, FRESH, text, 0).count(1), 0);
        }
        b.due("one in the gap", carriedOut(b, FRESH, "l0,1;l0,1", 1).count(1), 1);
        b.due("just out of the gap 3", carriedOut(b, FRESH, "s1;l0,1;p3;l0,1", 4).count(1), 2);
        b.due("just in the gap 3", carriedOut(b, FRESH, "s1;l0,1;p2;l0,1", 3).count(1), 1);
        b.due("thirty are loaded", carriedOut(b, Scenes.FULL, "l0,1", 0).count(1), 30);
        BeggingBoards x = carriedOut(b, Scenes.FULL.then("one is undone", y -> {
            y.undo();
            y.undo();
            y.undo();
        }), "l0,1;p1;l0,1", 2);
        b.due("the thirtieth, and no one more", x.count(1), 30);
    }

    private static void numbersOfPass(Bounds b) {
        b.sentence(13, "\"p\" ticks (pass)");
        b.due("the fewest ticks", carriedOut(b, FRESH, "p1", 1).count(0), 1);
        b.due("the most ticks", carriedOut(b, FRESH, "p99", 1).count(0), 99);
        b.due("too few", carriedOut(b, FRESH, "p0", 0).count(0), 0);
        b.due("at the last tick", carriedOut(b, Scenes.LATE, "p1", 0).count(0), 5000);
        Scene before = Scenes.LATE.then("one undone", BeggingBoards::undo);
        b.due("the ticks then", before.make().count(0), 4996);
        b.due("four ticks are left", carriedOut(b, before, "p4", 1).count(0), 5000);
        b.due("not five", carriedOut(b, before, "p5", 0).count(0), 4996);
        b.due("not four and one", carriedOut(b, before, "p4;p1;s3", 1).count(0), 5000);
    }

    private static void numbersOfTakeOff(Bounds b) {
        b.sentence(13, "\"t\" board (take off)");
        b.due("no board", carriedOut(b, FRESH, "t0", 0).count(5), 0);
        b.due("the only board", carriedOut(b, FRESH, "l0,1;t0", 2).count(5), 1);
        b.due("no such board", carriedOut(b, FRESH, "l0,1;t1", 1).count(5), 0);
        b.due("once more", carriedOut(b, FRESH, "l0,1;t0;t0", 2).count(5), 1);
        b.due("the thirtieth board", carriedOut(b, Scenes.FULL, "t29", 1).board(29, 2), 2);
        b.due("the one after it", carriedOut(b, Scenes.FULL, "t30", 0).count(5), 0);
        b.due("the greatest number", carriedOut(b, Scenes.FULL, "t99", 0).count(5), 0);
        b.due("one that has left", carriedOut(b, Scenes.FULL, "t0", 0).count(5), 0);
    }

    private static void numbersOfSpeed(Bounds b) {
        b.sentence(13, "\"s\" speed (set the speed)");
        b.due("the least speed", carriedOut(b, FRESH, "s1", 1).count(7), 1);
        b.due("the greatest speed", carriedOut(b, FRESH, "s3", 1).count(7), 3);
        b.due("too slow", carriedOut(b, FRESH, "s0", 0).count(7), 2);
        b.due("too fast", carriedOut(b, FRESH, "s4", 0).count(7), 2);
        b.due("too fast", carriedOut(b, FRESH, "s10", 0).count(7), 2);
        b.due("far too fast", carriedOut(b, FRESH, "s99", 0).count(7), 2);
    }

    private static void upToTheFirstError(Bounds b) {
        b.sentence(13, "Carries out the orders of the text, one after another, up to the first one that returns an error code");
        String[] refused = {"l4,1", "l0,0", "p0", "t0", "s0", "s4"};
        for (String wrong : refused) {
            b.due("as the first", carriedOut(b, FRESH, wrong + ";p5", 0).count(0), 0);
            b.due("in the middle", carriedOut(b, FRESH, "p2;" + wrong + ";p5", 1).count(0), 2);
            b.due("as the last", carriedOut(b, FRESH, "p2;p5;" + wrong, 2).count(0), 7);
            b.due("twice", carriedOut(b, FRESH, "p2;" + wrong + ";" + wrong + ";p5", 1).count(0), 2);
        }
        b.due("the last one of the most", carriedOut(b, FRESH, times("p1;", 32) + "s4", 32).count(0), 32);
        b.sentence(13, "and makes the text empty");
        BeggingBoards x = carriedOut(b, FRESH, "p1;p0;p7", 1);
        b.due("the rest is not carried out later", x.carryOut(), -2000);
        b.due("one tick", x.count(0), 1);
        b.sentence(13, "Returns the number of orders that are carried out");
        b.due("an order that answers 0 counts", carriedOut(b, FRESH, "l0,1;t0;p1", 3).count(0), 1);
    }

    private static void oneTextAfterAnother(Bounds b) {
        b.sentence(13, "and makes the text empty");
        String[] first = {"p1", "p1;p1;p1", "p1;p0;p1", "p0;p99", Scenes.fullOfOrders()};
        for (String text : first) {
            BeggingBoards x = text(text).make();
            x.carryOut();
            int ticks = x.count(0);
            b.due("after '" + text + "' carryOut()", x.carryOut(), -2000);
            Scenes.write(x, "p2;p3;p4");
            b.due("after '" + text + "' the next one", x.carryOut(), 3);
            b.due("after '" + text + "' its ticks", x.count(0), ticks + 9);
        }
        BeggingBoards cleared = text("p9;p0").make();
        cleared.clearText();
        Scenes.write(cleared, "p1");
        b.due("after one that was cleared", cleared.carryOut(), 1);
        b.due("its tick", cleared.count(0), 1);
        BeggingBoards undone = text("p9;p0").make();
        undone.carryOut();
        undone.undo();
        Scenes.write(undone, "p1;p1");
        b.due("after one that was undone", undone.carryOut(), 2);
        b.due("its ticks", undone.count(0), 2);
    }

    private static void oneAction(Bounds b) {
        b.sentence(13, "If the text has no fault, this is one action");
        int[] lengths = {2, 5, 98};
        for (int length : lengths) {
            Scene scene = text(times("p1;", 33).substring(0, length));
            b.recordsOnce(scene, "carryOut()", 0, BeggingBoards::carryOut);
        }
        for (Scene scene : Scenes.ALL) {
            int states = scene.make().count(14);
            Scene orders = scene.then("three orders", x -> {
                x.clearText();
                Scenes.write(x, "s1;s2;s3");
            });
            b.recordsOnce(orders, "carryOut()", states, BeggingBoards::carryOut);
            BeggingBoards x = orders.make();
            int speed = x.count(7);
            x.carryOut();
            b.due("the speed then", x.count(7), 3);
            x.undo();
            b.due("all orders are undone", x.count(7), speed);
        }
    }

    private static void alsoIfNoOrderIsCarriedOut(Bounds b) {
        b.sentence(13, "also if no order is carried out");
        for (Scene scene : Scenes.ALL) {
            int states = scene.make().count(14);
            Scene orders = scene.then("an order that is refused", x -> {
                x.clearText();
                Scenes.write(x, "s0;s3");
            });
            b.due(scene.name, orders.make().carryOut(), 0);
            b.recordsOnce(orders, "carryOut()", states, BeggingBoards::carryOut);
        }
    }
}
