/** Everything that can be looked at, so that two moments can be compared. */
final class Looking {
    /** The last part; the parts before it tell what is, this one what could be. */
    static final int FORECASTS = 3;

    private Looking() {
    }

    /** What a snapshot keeps. */
    static String atOven(BeggingBoards x) {
        StringBuilder told = new StringBuilder();
        for (int what = 0; what <= 12; what++) {
            tell(told, x.count(what));
        }
        zonesAndCurves(x, told);
        boards(x, told, 0, 29);
        return told.toString();
    }

    /** What a snapshot keeps, and the numbers of snapshots, of states in the history and of characters. */
    static String atAll(BeggingBoards x) {
        return atOven(x) + x.count(13) + " " + x.count(14) + " " + x.count(15);
    }

    /** A part, 0 to 3, by at most 320 calls: what is but for the history and the text, and what could be. */
    static String atPart(BeggingBoards x, int part) {
        StringBuilder told = new StringBuilder();
        switch (part) {
            case 0 -> {
                for (int what = 0; what <= 13; what++) {
                    tell(told, x.count(what));
                }
                zonesAndCurves(x, told);
                faultCells(x, told);
            }
            case 1 -> boards(x, told, 0, 14);
            case 2 -> boards(x, told, 15, 29);
            default -> forecasts(x, told);
        }
        return told.toString();
    }

    private static void zonesAndCurves(BeggingBoards x, StringBuilder told) {
        for (int zone = 0; zone < 6; zone++) {
            for (int what = 0; what <= 6; what++) {
                tell(told, x.zone(zone, what));
            }
        }
        for (int curve = 0; curve < 4; curve++) {
            for (int what = 0; what <= 5; what++) {
                tell(told, x.curve(curve, what));
            }
        }
    }

    private static void faultCells(BeggingBoards x, StringBuilder told) {
        for (int kind = 0; kind < 5; kind++) {
            tell(told, x.worstCell(kind, 0));
            tell(told, x.worstCell(kind, 1));
        }
        tell(told, x.faultCells());
    }

    private static void boards(BeggingBoards x, StringBuilder told, int first, int last) {
        int loaded = x.count(1);
        for (int board = first; board <= last && board < loaded; board++) {
            for (int what = 0; what <= 10; what++) {
                tell(told, x.board(board, what));
            }
            for (int kind = 0; kind < 5; kind++) {
                tell(told, x.fault(board, kind, 0));
                tell(told, x.fault(board, kind, 1));
            }
        }
    }

    private static void forecasts(BeggingBoards x, StringBuilder told) {
        int loaded = x.count(1);
        for (int board = 0; board < loaded; board++) {
            for (int what = 0; what < 4; what++) {
                tell(told, x.foretell(board, what));
            }
        }
        for (int curve = 0; curve < 4; curve++) {
            tell(told, x.heaviest(curve));
            for (int weight = 1; weight <= 9; weight++) {
                for (int speed = 0; speed <= 3; speed++) {
                    tell(told, x.wouldFail(curve, weight, speed));
                }
            }
        }
        tell(told, x.room());
    }

    private static void tell(StringBuilder told, int answer) {
        told.append(answer).append(' ');
    }
}
