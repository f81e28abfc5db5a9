/** Promises 11 to 13: append, clearText, carryOut. */
public final class TextTest {
    private static final int INVALID = BeggingBoards.INVALID_ARGUMENT;
    private static final int FULL = BeggingBoards.CAPACITY_EXCEEDED;

    private TextTest() {
    }

    public static void main(String[] args) {
        Check check = new Check("TextTest");
        append(check);
        clearText(check);
        faults(check);
        faultsOfEveryCharacter(check);
        orders(check);
        ordersThatFail(check);
        aFullText(check);
        check.end();
    }

    private static void write(BeggingBoards x, String text) {
        for (int i = 0; i < text.length(); i++) {
            x.append(text.charAt(i));
        }
    }

    private static int carryOut(BeggingBoards x, String text) {
        x.clearText();
        write(x, text);
        return x.carryOut();
    }

    private static void append(Check check) {
        BeggingBoards x = new BeggingBoards();
        int[] wrong = {0, -1, 256, Integer.MIN_VALUE, Integer.MAX_VALUE};
        for (int character : wrong) {
            check.due("append " + character, x.append(character), INVALID);
        }
        check.due("nothing is appended", x.count(15), 0);
        check.due("the least character", x.append(1), 1);
        check.due("the greatest character", x.append(255), 2);
        for (int length = 3; length <= 100; length++) {
            check.due("append", x.append('p'), length);
        }
        check.due("append to 100 characters", x.append('p'), FULL);
        check.due("a wrong one comes first", x.append(0), INVALID);
        check.due("a wrong one comes first", x.append(256), INVALID);
        check.due("the length stays", x.count(15), 100);
        check.due("append is no action", x.count(14), 0);
    }

    private static void clearText(Check check) {
        BeggingBoards x = new BeggingBoards();
        check.due("clearText of nothing", x.clearText(), 0);
        write(x, "s3;s");
        check.due("clearText", x.clearText(), 4);
        check.due("it is empty", x.count(15), 0);
        check.due("the empty text has a fault", x.carryOut(), -2000);
        write(x, "s1");
        check.due("nothing of the old text stays", x.carryOut(), 1);
        check.due("clearText is no action", x.count(14), 1);
    }

    private static void faults(Check check) {
        Object[][] texts = {
            {"", 0}, {"l", 1}, {"l1", 2}, {"l1,", 3}, {"l0,", 3}, {"l10", 3}, {"l10,", 4}, {"p", 1}, {"t", 1}, {"s", 1},
            {"p1;", 3}, {"p10;", 4}, {"l1,1;", 5}, {"x", 0}, {";", 0}, {",", 0}, {"1", 0}, {" p1", 0}, {"P1", 0},
            {"L1,1", 0}, {"lx", 1}, {"l,1", 1}, {"l;", 1}, {"l1;1", 2}, {"l1x", 2}, {"l01,1", 2}, {"l00,1", 2},
            {"l123,1", 3}, {"l12;1", 3}, {"l1,,1", 3}, {"l1,;", 3}, {"l1,01", 4}, {"l1,123", 5}, {"l1,1,1", 4},
            {"l1,12,", 5}, {"px", 1}, {"p;", 1}, {"p,", 1}, {"p-1", 1}, {"p01", 2}, {"p00", 2}, {"p123", 3},
            {"p1,1", 2}, {"p12,1", 3}, {"p1 ", 2}, {"p1p2", 2}, {"p12p2", 3}, {"p0p", 2}, {"p1;;p2", 3}, {"p1;x", 3},
            {"p1;1", 3}, {"t01", 2}, {"t100", 3}, {"s01", 2}, {"s3;s", 4}, {"s3;s01", 5}, {"p1:", 2}, {"p1/", 2},
            {"p:", 1}, {"p/", 1}, {"p1;l1,2;t3;s1;q", 14}};
        for (Object[] row : texts) {
            BeggingBoards x = new BeggingBoards();
            String text = (String) row[0];
            write(x, text);
            check.due("the fault of '" + text + "'", x.carryOut(), -2000 - (Integer) row[1]);
            check.due("the text '" + text + "' stays", x.count(15), text.length());
            check.due("nothing is carried out of '" + text + "'", x.count(14) + x.count(0) + x.count(7) - 2, 0);
        }
        BeggingBoards x = new BeggingBoards();
        write(x, "p");
        check.due("too short", x.carryOut(), -2001);
        write(x, "7");
        check.due("it can be gone on with", x.carryOut(), 1);
        check.due("seven ticks", x.count(0), 7);
    }

    /** Of every character at every kind of place, whether it is allowed there. */
    private static void faultsOfEveryCharacter(Check check) {
        String[][] places = {
            {"", "lpts"}, {"l", "0123456789"}, {"l1", "0123456789,"}, {"l0", ","}, {"l12", ","}, {"l1,", "0123456789"},
            {"l1,2", "0123456789;"}, {"l1,0", ";"}, {"l1,23", ";"}, {"p", "0123456789"}, {"t9", "0123456789;"},
            {"s0", ";"}, {"p99", ";"}, {"p1;", "lpts"}};
        for (String[] place : places) {
            for (int character = 1; character <= 255; character++) {
                BeggingBoards x = new BeggingBoards();
                write(x, place[0]);
                x.append(character);
                x.append('!');
                boolean allowed = place[1].indexOf(character) >= 0;
                check.due("the character " + character + " after '" + place[0] + "'", x.carryOut(),
                        -2000 - place[0].length() - (allowed ? 1 : 0));
            }
        }
    }

    private static void orders(Check check) {
        BeggingBoards x = new BeggingBoards();
        check.due("load", carryOut(x, "l3,9"), 1);
        check.due("its curve and weight", x.board(0, 0) * 10 + x.board(0, 1), 39);
        check.due("pass", carryOut(x, "p2"), 1);
        check.due("two ticks", x.count(0), 2);
        check.due("take off", carryOut(x, "t0"), 1);
        check.due("it is taken off", x.board(0, 2), 2);
        check.due("set the speed", carryOut(x, "s1"), 1);
        check.due("the speed", x.count(7), 1);
        check.due("pass many", carryOut(x, "p99"), 1);
        check.due("all ticks", x.count(0), 101);
        check.due("the text is empty then", x.count(15), 0);
        BeggingBoards y = new BeggingBoards();
        check.due("several", carryOut(y, "s3;l1,2;p1;l2,3;t0;p8;s2;p10;l0,1;p1;t2"), 11);
        check.due("boards", y.count(1) * 100 + y.count(3) * 10 + y.count(5), 312);
        check.due("ticks", y.count(0), 20);
        check.due("the second board's curve", y.board(1, 0), 2);
        check.due("the second board's weight", y.board(1, 1), 3);
        check.due("they are one action", y.count(14), 1);
        check.due("undone at once", y.undo(), 0);
        check.due("no board, no tick", y.count(0) + y.count(1), 0);
        check.due("the speed of before", y.count(7), 2);
        BeggingBoards z = new BeggingBoards();
        for (int board = 0; board < 13; board++) {
            z.load(0, 1);
            z.pass(2);
        }
        check.due("a number of two digits", carryOut(z, "t11"), 1);
        check.due("the board 11", z.board(11, 2), 2);
        check.due("the board 1", z.board(1, 2), 1);
    }

    private static void ordersThatFail(Check check) {
        Object[][] texts = {
            {"l4,1", 0, 0}, {"l0,0", 0, 0}, {"l0,10", 0, 0}, {"l99,99", 0, 0}, {"p0", 0, 0}, {"t0", 0, 0},
            {"t99", 0, 0}, {"s0", 0, 0}, {"s4", 0, 0}, {"s10", 0, 0}, {"p3;p0;p5", 1, 3}, {"p3;l0,1;l0,1;p5", 2, 3},
            {"l0,1;t0;t0;p5", 2, 0}, {"p1;s3;s4;p1", 2, 1}, {"p2;p3;t1;t1;p1", 2, 5}};
        for (Object[] row : texts) {
            BeggingBoards x = new BeggingBoards();
            String text = (String) row[0];
            check.due("the orders carried out of '" + text + "'", carryOut(x, text), (Integer) row[1]);
            check.due("the ticks by '" + text + "'", x.count(0), (Integer) row[2]);
            check.due("the text '" + text + "' is emptied", x.count(15), 0);
            check.due("one action by '" + text + "'", x.count(14), 1);
        }
        BeggingBoards x = new BeggingBoards();
        for (int i = 0; i < 50; i++) {
            x.pass(99);
        }
        check.due("ticks beyond 5000", carryOut(x, "p25;p25;p1;s3"), 2);
        check.due("just 5000", x.count(0), 5000);
        check.due("no order after it", x.count(7), 2);
        BeggingBoards y = new BeggingBoards();
        y.set(1, 1);
        for (int board = 0; board < 30; board++) {
            y.load(0, 1);
            y.pass(1);
        }
        check.due("a board beyond 30", carryOut(y, "p9;l0,1;p1"), 1);
        check.due("no tick after it", y.count(0), 39);
    }

    private static void aFullText(Check check) {
        StringBuilder most = new StringBuilder("p10");
        for (int order = 1; order < 33; order++) {
            most.append(";p1");
        }
        BeggingBoards x = new BeggingBoards();
        check.due("33 orders", carryOut(x, most + ""), 33);
        check.due("42 ticks", x.count(0), 42);
        check.due("99 characters and a semicolon", carryOut(x, most + ";"), -2100);
        check.due("the text stays", x.clearText(), 100);
        check.due("100 characters", carryOut(x, most + "0"), 33);
        check.due("51 ticks more", x.count(0), 93);
        check.due("one character more is not appended", carryOut(x, most + ";p5"), -2100);
    }
}
