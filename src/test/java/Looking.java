/** Everything that can be looked at, so that two moments can be compared. */
final class Looking {
    private Looking() {
    }

    /** What a snapshot keeps. */
    static String atOven(BeggingBoards x) {
        StringBuilder told = new StringBuilder();
        for (int what = 0; what <= 12; what++) {
            told.append(x.count(what)).append(' ');
        }
        for (int zone = 0; zone < 6; zone++) {
            for (int what = 0; what <= 6; what++) {
                told.append(x.zone(zone, what)).append(' ');
            }
        }
        for (int curve = 0; curve < 4; curve++) {
            for (int what = 0; what <= 5; what++) {
                told.append(x.curve(curve, what)).append(' ');
            }
        }
        for (int board = 0; board < x.count(1); board++) {
            for (int what = 0; what <= 10; what++) {
                told.append(x.board(board, what)).append(' ');
            }
            for (int kind = 0; kind < 5; kind++) {
                told.append(x.fault(board, kind, 0)).append(' ').append(x.fault(board, kind, 1)).append(' ');
            }
        }
        return told.toString();
    }

    /** What a snapshot keeps, and the numbers of snapshots, of states in the history and of characters. */
    static String atAll(BeggingBoards x) {
        return atOven(x) + x.count(13) + " " + x.count(14) + " " + x.count(15);
    }
}
