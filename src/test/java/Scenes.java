/** States in which calls are refused or not; ScenesTest looks whether they are what their names say. */
final class Scenes {
    static final Scene FRESH = new Scene("a new object", x -> { });

    /** Boards on the belt, one of them in the gap, left and taken off; all kinds of faults; the speed changed by pleas. */
    static final Scene BUSY = new Scene("a busy belt", x -> {
        x.set(2, 2);
        x.set(3, 4);
        x.setCurve(1, 0, 5);
        x.setCurve(2, 1, 30);
        x.setCurve(2, 3, 1);
        x.setCurve(2, 5, 90);
        x.setCurve(3, 2, 99);
        x.setCurve(3, 4, 300);
        for (int board = 0; board < 8; board++) {
            x.load(3 - board % 4, 1 + board * 4 % 9);
            x.pass(3);
        }
        x.take(0);
        x.set(1, 2);
        x.load(0, 2);
        x.pass(2);
        x.takeOff(x.count(1) - 2);
        x.take(1);
        x.pass(1);
        x.load(2, 7);
        write(x, "s1;p2;l1,2;l1,2;p3");
    });

    /** Thirty boards are loaded, two of them are on the belt, none in the gap; the text is full. */
    static final Scene FULL = new Scene("thirty loaded", x -> {
        x.set(1, 1);
        for (int board = 0; board < 29; board++) {
            x.load(board % 4, 1 + board % 9);
            if (board == 20) {
                x.take(0);
            }
            x.pass(1);
        }
        x.pass(8);
        x.load(1, 3);
        x.pass(2);
        x.take(1);
        write(x, fullOfOrders());
    });

    /** 5000 ticks have passed, with a board on the belt, at a cell beyond the gap. */
    static final Scene LATE = new Scene("at the last tick", x -> {
        for (int i = 0; i < 50; i++) {
            x.pass(99);
        }
        x.take(1);
        x.pass(46);
        x.load(0, 3);
        x.pass(4);
        write(x, "s3;p1");
    });

    /** Boards have left or were taken off, and none is on the belt; four states are in the history. */
    static final Scene EMPTIED = new Scene("an emptied belt", x -> {
        x.set(3, 9);
        x.load(0, 9);
        x.pass(3);
        x.load(1, 8);
        x.take(1);
        x.pass(20);
        x.load(2, 7);
        x.pass(2);
        x.takeOff(2);
        x.undo();
        x.undo();
        x.takeOff(2);
        write(x, "l0,1;p99");
    });

    static final Scene[] ALL = {FRESH, BUSY, FULL, LATE, EMPTIED};
    static final Scene[] WITH_BOARDS_ON_BELT = {BUSY, FULL, LATE};
    static final Scene[] WITH_EMPTY_BELT = {FRESH, EMPTIED};

    private Scenes() {
    }

    static void write(BeggingBoards x, String text) {
        for (int i = 0; i < text.length(); i++) {
            x.append(text.charAt(i));
        }
    }

    /** 100 characters without a fault. */
    static String fullOfOrders() {
        StringBuilder orders = new StringBuilder("s3;p10");
        while (orders.length() < 100) {
            orders.append(orders.length() == 99 ? "0" : ";p1");
        }
        return orders.toString();
    }

    /** Zones of one length, all at 20 degrees, and the gap 1; boards change neither the zones nor the speed. */
    static Scene evenBelt(int length, int speed) {
        return new Scene("zones of the length " + length + ", the speed " + speed, x -> {
            for (int zone = 0; zone < 6; zone++) {
                x.setZone(zone, length, 20, 5);
            }
            x.set(0, speed);
            x.set(1, 1);
            x.set(2, 0);
            x.set(3, 0);
        });
    }

    /** The longest belt at the speed 1, with the board 0 in cell 29, and so on to the board 29 in cell 0. */
    static Scene thirtyInARow() {
        return evenBelt(8, 1).then("thirty boards in a row", x -> {
            x.load(0, 1);
            for (int board = 1; board < 30; board++) {
                x.pass(1);
                x.load(0, 1);
            }
        });
    }

    /** All zones have the same target, and boards change neither the zones nor the speed. */
    static Scene flat(int target) {
        return new Scene("all zones at " + target, x -> {
            for (int zone = 0; zone < 6; zone++) {
                x.setZone(zone, 4, target, 5);
            }
            x.set(2, 0);
            x.set(3, 0);
        });
    }

    static BeggingBoards flatBelt(int target, int speed) {
        BeggingBoards x = flat(target).make();
        x.set(0, speed);
        x.set(1, 1);
        return x;
    }
}
