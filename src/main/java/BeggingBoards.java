/**
 * An oven with a belt for boards that beg for a slower ride. What each call does is
 * promised in ../shared/DOC.md.
 */
public final class BeggingBoards {
    public static final int INVALID_ARGUMENT = -1001;
    public static final int ILLEGAL_STATE = -1002;
    public static final int CAPACITY_EXCEEDED = -1003;
    public static final int NONE = -1009;

    private static final int TEXT_FAULT = -2000;

    private static final int COOLEST = 20;
    private static final int HOTTEST = 300;
    private static final int MOST_TICKS = 5000;
    private static final int MOST_TICKS_A_PASS = 99;

    private static final int ZONES = 6;
    private static final int SHORTEST_ZONE = 2;
    private static final int LONGEST_ZONE = 8;
    private static final int STRONGEST_POWER = 20;
    private static final int LONGEST_BELT = ZONES * LONGEST_ZONE;

    // The first columns of a zone's row are numbered as zone() names them.
    private static final int LENGTH = 0;
    private static final int TARGET = 1;
    private static final int POWER = 2;
    private static final int WARMTH = 3;
    private static final int ZONE_ROW = 4;
    private static final int FIRST_LENGTH = 4;
    private static final int FIRST_POWER = 5;
    private static final int[] FIRST_TARGETS = {120, 160, 180, 240, 230, 60};

    // The numbers of the belt are numbered as set() names them.
    private static final int SPEED = 0;
    private static final int GAP = 1;
    private static final int BOUND = 2;
    private static final int DROP = 3;
    private static final int BELT_NUMBERS = 4;
    private static final int SLOWEST = 1;
    private static final int FASTEST = 3;
    private static final int[] FIRST_NUMBERS = {2, 3, 6, 1};
    private static final int[] LEAST_NUMBERS = {SLOWEST, 1, 0, 0};
    private static final int[] MOST_NUMBERS = {FASTEST, 20, 99, 9};

    // The columns of a curve's row are numbered as setCurve() names them.
    private static final int CURVES = 4;
    private static final int STEEPEST = 0;
    private static final int MELTING = 1;
    private static final int FEWEST_ABOVE = 2;
    private static final int MOST_ABOVE = 3;
    private static final int LOWEST_PEAK = 4;
    private static final int HIGHEST_PEAK = 5;
    private static final int CURVE_ROW = 6;
    private static final int[] FIRST_CURVE = {40, 180, 2, 6, 190, 240};
    private static final int[] LEAST_OF_CURVE = {1, COOLEST, 0, 0, COOLEST, COOLEST};
    private static final int[] MOST_OF_CURVE = {99, HOTTEST, 99, 99, HOTTEST, HOTTEST};

    // The first columns of a board's row are numbered as board() names them.
    private static final int BOARDS = 30;
    private static final int HEAVIEST = 9;
    private static final int CURVE = 0;
    private static final int WEIGHT = 1;
    private static final int STATE = 2;
    private static final int CELL = 3;
    private static final int DEGREES = 4;
    private static final int RISE = 5;
    private static final int PEAK = 6;
    private static final int ABOVE = 7;
    private static final int FAULTS = 8;
    private static final int PLEA = 9;
    private static final int LEFT_AT = 10;
    private static final int TOLD_OF_BOARD = 11;
    private static final int ZONE = 11;
    private static final int FAULT_CELLS = 12;
    private static final int FAULT_TICKS = 17;
    private static final int BOARD_ROW = 22;

    private static final int ON_BELT = 0;
    private static final int LEFT = 1;
    private static final int TAKEN_OFF = 2;

    private static final int NO_PLEA = 0;
    private static final int SLOWER = 1;
    private static final int FASTER = 2;

    private static final int KINDS = 5;
    private static final int TOO_STEEP = 0;
    private static final int TOO_LONG_ABOVE = 1;
    private static final int TOO_HOT = 2;
    private static final int TOO_SHORT_ABOVE = 3;
    private static final int TOO_COOL = 4;

    private static final int SLOTS = 2;
    private static final int HISTORY = 5;
    private static final int TEXT_ROOM = 100;
    private static final int LAST_CHARACTER = 255;

    private final Moment now;
    private final History history;
    private final Text text;
    private final Oven trial;

    public BeggingBoards() {
        now = new Moment();
        history = new History();
        text = new Text();
        trial = new Oven();
    }

    // ---- oven and curves

    public int setZone(int zone, int length, int target, int power) {
        history.keep(now);
        return history.recordUnlessError(now.oven.changeZone(zone, length, target, power));
    }

    public int setCurve(int curve, int what, int value) {
        history.keep(now);
        return history.recordUnlessError(now.oven.changeCurve(curve, what, value));
    }

    public int set(int what, int value) {
        history.keep(now);
        return history.recordUnlessError(now.oven.changeNumber(what, value));
    }

    // ---- boards

    public int load(int curve, int weight) {
        history.keep(now);
        return history.recordUnlessError(now.oven.addBoard(curve, weight));
    }

    public int takeOff(int board) {
        history.keep(now);
        return history.recordUnlessError(now.oven.removeBoard(board));
    }

    public int pass(int ticks) {
        history.keep(now);
        return history.recordUnlessError(now.oven.letPass(ticks));
    }

    // ---- snapshots

    public int take(int slot) {
        history.keep(now);
        return history.recordUnlessError(now.takeSnapshot(slot));
    }

    public int restore(int slot) {
        history.keep(now);
        return history.recordUnlessError(now.restoreSnapshot(slot));
    }

    public int undo() {
        return history.goBack(now);
    }

    // ---- text

    public int append(int character) {
        return text.add(character);
    }

    public int clearText() {
        return text.wipe();
    }

    public int carryOut() {
        int fault = text.firstFault();
        if (fault != NONE) {
            return TEXT_FAULT - fault;
        }
        history.keep(now);
        int carriedOut = 0;
        while (carriedOut < TEXT_ROOM && text.readOrder()
                && now.oven.obey(text.letter, text.curve, text.number) >= 0) {
            carriedOut++;
        }
        text.wipe();
        return history.recordUnlessError(carriedOut);
    }

    // ---- looking

    public int count(int what) {
        Oven oven = now.oven;
        switch (what) {
            case 0: return oven.ticks;
            case 1: return oven.loaded;
            case 2: return oven.boardsThatAre(ON_BELT);
            case 3: return oven.boardsThatAre(LEFT);
            case 4: return oven.boardsLeftFaultless();
            case 5: return oven.boardsThatAre(TAKEN_OFF);
            case 6: return oven.beltLength();
            case 7: return oven.numbers[SPEED];
            case 8: return oven.numbers[GAP];
            case 9: return oven.numbers[BOUND];
            case 10: return oven.numbers[DROP];
            case 11: return oven.slowed;
            case 12: return oven.hastened;
            case 13: return now.snapshots();
            case 14: return history.recorded;
            case 15: return text.length;
            default: return INVALID_ARGUMENT;
        }
    }

    public int zone(int zone, int what) {
        if (!isWithin(zone, 0, ZONES - 1)) {
            return INVALID_ARGUMENT;
        }
        switch (what) {
            case LENGTH:
            case TARGET:
            case POWER:
            case WARMTH: return now.oven.zones[zone * ZONE_ROW + what];
            case 4: return now.oven.firstCellOf(zone);
            case 5: return now.oven.boardsIn(zone);
            case 6: return now.oven.weightIn(zone);
            default: return INVALID_ARGUMENT;
        }
    }

    public int curve(int curve, int what) {
        if (!isWithin(curve, 0, CURVES - 1) || !isWithin(what, 0, CURVE_ROW - 1)) {
            return INVALID_ARGUMENT;
        }
        return now.oven.curves[curve * CURVE_ROW + what];
    }

    public int board(int board, int what) {
        if (!now.oven.hasBoard(board) || !isWithin(what, 0, TOLD_OF_BOARD - 1)) {
            return INVALID_ARGUMENT;
        }
        return now.oven.boards[board * BOARD_ROW + what];
    }

    public int fault(int board, int kind, int what) {
        if (!now.oven.hasBoard(board) || !isWithin(kind, 0, KINDS - 1) || !isWithin(what, 0, 1)) {
            return INVALID_ARGUMENT;
        }
        int column = what == 0 ? FAULT_CELLS : FAULT_TICKS;
        return now.oven.boards[board * BOARD_ROW + column + kind];
    }

    public int worstCell(int kind, int what) {
        if (!isWithin(kind, 0, KINDS - 1) || !isWithin(what, 0, 1)) {
            return INVALID_ARGUMENT;
        }
        int worst = NONE;
        int most = 0;
        // The cell of a fault may be the length of the belt, which is one beyond its last cell.
        for (int cell = 0; cell <= LONGEST_BELT; cell++) {
            int boards = now.oven.boardsWithFault(kind, cell);
            if (boards > most) {
                worst = cell;
                most = boards;
            }
        }
        return what == 0 ? worst : most;
    }

    public int faultCells() {
        return Long.bitCount(now.oven.setOfFaultCells());
    }

    // ---- what could be, which changes nothing

    public int foretell(int board, int what) {
        if (!now.oven.hasBoard(board) || !isWithin(what, 0, 3)) {
            return INVALID_ARGUMENT;
        }
        if (!now.oven.isOnBelt(board)) {
            return ILLEGAL_STATE;
        }
        trial.become(now.oven);
        int ticks = trial.passUntilLeft(board);
        int row = board * BOARD_ROW;
        switch (what) {
            case 0: return trial.boards[row + FAULTS];
            case 1: return trial.boards[row + PEAK];
            case 2: return ticks;
            default: return trial.boards[row + DEGREES];
        }
    }

    public int wouldFail(int curve, int weight, int speed) {
        if (!isWithin(curve, 0, CURVES - 1) || !isWithin(weight, 1, HEAVIEST) || !isWithin(speed, 0, FASTEST)) {
            return INVALID_ARGUMENT;
        }
        return faultsInTrial(curve, weight, speed);
    }

    public int heaviest(int curve) {
        if (!isWithin(curve, 0, CURVES - 1)) {
            return INVALID_ARGUMENT;
        }
        for (int weight = HEAVIEST; weight >= 1; weight--) {
            if (faultsInTrial(curve, weight, 0) == 0) {
                return weight;
            }
        }
        return NONE;
    }

    public int room() {
        trial.become(now.oven);
        return trial.passUntilFree();
    }

    /** The speed 0 leaves the speed and the bound as they are. */
    private int faultsInTrial(int curve, int weight, int speed) {
        trial.become(now.oven);
        if (speed != 0) {
            trial.numbers[SPEED] = speed;
            trial.numbers[BOUND] = 0;
        }
        int board = trial.placeBoard(curve, weight);
        trial.passUntilLeft(board);
        return trial.boards[board * BOARD_ROW + FAULTS];
    }

    private static boolean isWithin(int value, int least, int most) {
        return value >= least && value <= most;
    }

    /** All that a snapshot keeps. */
    private static final class Oven {
        final int[] zones = new int[ZONES * ZONE_ROW];
        final int[] curves = new int[CURVES * CURVE_ROW];
        final int[] numbers = new int[BELT_NUMBERS];
        // One row more than may be loaded: wouldFail() places a board also when 30 have been loaded.
        final int[] boards = new int[(BOARDS + 1) * BOARD_ROW];
        // A tick's own sums; kept here so that a tick makes no array.
        private final int[] weights = new int[ZONES];
        int ticks;
        int loaded;
        int slowed;
        int hastened;

        Oven() {
            for (int zone = 0; zone < ZONES; zone++) {
                int row = zone * ZONE_ROW;
                zones[row + LENGTH] = FIRST_LENGTH;
                zones[row + TARGET] = FIRST_TARGETS[zone];
                zones[row + POWER] = FIRST_POWER;
                zones[row + WARMTH] = FIRST_TARGETS[zone];
            }
            for (int curve = 0; curve < CURVES; curve++) {
                System.arraycopy(FIRST_CURVE, 0, curves, curve * CURVE_ROW, CURVE_ROW);
            }
            System.arraycopy(FIRST_NUMBERS, 0, numbers, 0, BELT_NUMBERS);
        }

        void become(Oven other) {
            System.arraycopy(other.zones, 0, zones, 0, ZONES * ZONE_ROW);
            System.arraycopy(other.curves, 0, curves, 0, CURVES * CURVE_ROW);
            System.arraycopy(other.numbers, 0, numbers, 0, BELT_NUMBERS);
            System.arraycopy(other.boards, 0, boards, 0, other.loaded * BOARD_ROW);
            ticks = other.ticks;
            loaded = other.loaded;
            slowed = other.slowed;
            hastened = other.hastened;
        }

        // ---- what actions do; each returns an error code and changes nothing, or it does its work

        int changeZone(int zone, int length, int target, int power) {
            if (!isWithin(zone, 0, ZONES - 1) || !isWithin(length, SHORTEST_ZONE, LONGEST_ZONE)
                    || !isWithin(target, COOLEST, HOTTEST) || !isWithin(power, 1, STRONGEST_POWER)) {
                return INVALID_ARGUMENT;
            }
            if (boardsThatAre(ON_BELT) > 0) {
                return ILLEGAL_STATE;
            }
            int row = zone * ZONE_ROW;
            zones[row + LENGTH] = length;
            zones[row + TARGET] = target;
            zones[row + POWER] = power;
            zones[row + WARMTH] = target;
            return beltLength();
        }

        int changeCurve(int curve, int what, int value) {
            if (!isWithin(curve, 0, CURVES - 1) || !isWithin(what, 0, CURVE_ROW - 1)
                    || !isWithin(value, LEAST_OF_CURVE[what], MOST_OF_CURVE[what])) {
                return INVALID_ARGUMENT;
            }
            int previous = curves[curve * CURVE_ROW + what];
            curves[curve * CURVE_ROW + what] = value;
            return previous;
        }

        int changeNumber(int what, int value) {
            if (!isWithin(what, 0, BELT_NUMBERS - 1) || !isWithin(value, LEAST_NUMBERS[what], MOST_NUMBERS[what])) {
                return INVALID_ARGUMENT;
            }
            int previous = numbers[what];
            numbers[what] = value;
            return previous;
        }

        int addBoard(int curve, int weight) {
            if (!isWithin(curve, 0, CURVES - 1) || !isWithin(weight, 1, HEAVIEST)) {
                return INVALID_ARGUMENT;
            }
            if (!isStartFree()) {
                return ILLEGAL_STATE;
            }
            if (loaded >= BOARDS) {
                return CAPACITY_EXCEEDED;
            }
            return placeBoard(curve, weight);
        }

        int removeBoard(int board) {
            if (!hasBoard(board)) {
                return INVALID_ARGUMENT;
            }
            if (!isOnBelt(board)) {
                return ILLEGAL_STATE;
            }
            int row = board * BOARD_ROW;
            int cell = boards[row + CELL];
            boards[row + STATE] = TAKEN_OFF;
            boards[row + CELL] = NONE;
            return cell;
        }

        int letPass(int howMany) {
            if (!isWithin(howMany, 1, MOST_TICKS_A_PASS)) {
                return INVALID_ARGUMENT;
            }
            if (ticks + howMany > MOST_TICKS) {
                return CAPACITY_EXCEEDED;
            }
            int left = 0;
            for (int tick = 0; tick < howMany; tick++) {
                left += letOnePass();
            }
            return left;
        }

        /** An order of a text; its number is the last one, for "l" the weight. */
        int obey(int letter, int curve, int number) {
            switch (letter) {
                case 'l': return addBoard(curve, number);
                case 'p': return letPass(number);
                case 't': return removeBoard(number);
                default: return changeNumber(SPEED, number);
            }
        }

        /** Asks neither for the gap nor for the number of boards; a row must be free. */
        int placeBoard(int curve, int weight) {
            int row = loaded * BOARD_ROW;
            for (int column = 0; column < BOARD_ROW; column++) {
                boards[row + column] = column < FAULT_CELLS ? 0 : NONE;
            }
            boards[row + CURVE] = curve;
            boards[row + WEIGHT] = weight;
            boards[row + DEGREES] = COOLEST;
            boards[row + PEAK] = COOLEST;
            boards[row + LEFT_AT] = NONE;
            loaded++;
            return loaded - 1;
        }

        // ---- ticks

        int passUntilLeft(int board) {
            int passed = 0;
            while (isOnBelt(board) && passed < LONGEST_BELT) {
                letOnePass();
                passed++;
            }
            return passed;
        }

        int passUntilFree() {
            int passed = 0;
            while (!isStartFree() && passed < LONGEST_BELT) {
                letOnePass();
                passed++;
            }
            return passed;
        }

        /** Returns how many boards leave. */
        private int letOnePass() {
            int left = moveBoards();
            changeWarmths();
            warmBoards();
            hearPleas();
            ticks++;
            return left;
        }

        private int moveBoards() {
            int length = beltLength();
            int left = 0;
            for (int board = 0; board < loaded; board++) {
                int row = board * BOARD_ROW;
                if (boards[row + STATE] == ON_BELT) {
                    int cell = boards[row + CELL] + numbers[SPEED];
                    if (cell < length) {
                        boards[row + CELL] = cell;
                        boards[row + ZONE] = zoneAt(cell);
                    } else {
                        leave(row, length);
                        left++;
                    }
                }
            }
            return left;
        }

        private void leave(int row, int length) {
            int curve = boards[row + CURVE] * CURVE_ROW;
            boards[row + STATE] = LEFT;
            boards[row + CELL] = NONE;
            boards[row + LEFT_AT] = ticks;
            if (boards[row + ABOVE] < curves[curve + FEWEST_ABOVE]) {
                noteFault(row, TOO_SHORT_ABOVE, length);
            }
            if (boards[row + PEAK] < curves[curve + LOWEST_PEAK]) {
                noteFault(row, TOO_COOL, length);
            }
        }

        private void changeWarmths() {
            sumWeights();
            for (int zone = 0; zone < ZONES; zone++) {
                int row = zone * ZONE_ROW;
                int target = zones[row + TARGET];
                int power = zones[row + POWER];
                int warmth = Math.max(COOLEST, zones[row + WARMTH] - numbers[DROP] * weights[zone] / 5);
                if (warmth < target) {
                    warmth = Math.min(target, warmth + power);
                } else {
                    warmth = Math.max(target, warmth - power);
                }
                zones[row + WARMTH] = warmth;
            }
        }

        private void sumWeights() {
            for (int zone = 0; zone < ZONES; zone++) {
                weights[zone] = 0;
            }
            for (int board = 0; board < loaded; board++) {
                int row = board * BOARD_ROW;
                if (boards[row + STATE] == ON_BELT) {
                    weights[boards[row + ZONE]] += boards[row + WEIGHT];
                }
            }
        }

        private void warmBoards() {
            for (int board = 0; board < loaded; board++) {
                int row = board * BOARD_ROW;
                if (boards[row + STATE] == ON_BELT) {
                    warm(row);
                    judgeOnBelt(row);
                }
            }
        }

        private void warm(int row) {
            int warmth = zones[boards[row + ZONE] * ZONE_ROW + WARMTH];
            int degrees = boards[row + DEGREES];
            int rise = (warmth - degrees) / (boards[row + WEIGHT] + 1);
            degrees += rise;
            boards[row + RISE] = rise;
            boards[row + DEGREES] = degrees;
            boards[row + PEAK] = Math.max(boards[row + PEAK], degrees);
            if (degrees > curves[boards[row + CURVE] * CURVE_ROW + MELTING]) {
                boards[row + ABOVE]++;
            }
        }

        private void judgeOnBelt(int row) {
            int curve = boards[row + CURVE] * CURVE_ROW;
            int cell = boards[row + CELL];
            int plea = NO_PLEA;
            if (boards[row + ABOVE] > curves[curve + MOST_ABOVE]) {
                noteFault(row, TOO_LONG_ABOVE, cell);
                plea = FASTER;
            }
            if (boards[row + RISE] > curves[curve + STEEPEST]) {
                noteFault(row, TOO_STEEP, cell);
                plea = SLOWER;
            }
            if (boards[row + DEGREES] > curves[curve + HIGHEST_PEAK]) {
                noteFault(row, TOO_HOT, cell);
            }
            boards[row + PLEA] = plea;
        }

        private void noteFault(int row, int kind, int cell) {
            int bit = 1 << kind;
            if ((boards[row + FAULTS] & bit) == 0) {
                boards[row + FAULTS] |= bit;
                boards[row + FAULT_CELLS + kind] = cell;
                boards[row + FAULT_TICKS + kind] = ticks;
            }
        }

        private void hearPleas() {
            int bound = numbers[BOUND];
            if (bound == 0) {
                return;
            }
            int speed = numbers[SPEED];
            int forSlower = weightForSlower();
            if (forSlower >= bound && speed > SLOWEST) {
                numbers[SPEED] = speed - 1;
                slowed++;
            } else if (-forSlower >= bound && speed < FASTEST) {
                numbers[SPEED] = speed + 1;
                hastened++;
            }
        }

        /** The weights of those who plead for slower, less those of the others who plead. */
        private int weightForSlower() {
            int sum = 0;
            for (int board = 0; board < loaded; board++) {
                int row = board * BOARD_ROW;
                if (boards[row + STATE] == ON_BELT) {
                    if (boards[row + PLEA] == SLOWER) {
                        sum += boards[row + WEIGHT];
                    } else if (boards[row + PLEA] == FASTER) {
                        sum -= boards[row + WEIGHT];
                    }
                }
            }
            return sum;
        }

        // ---- looking

        boolean hasBoard(int board) {
            return isWithin(board, 0, loaded - 1);
        }

        boolean isOnBelt(int board) {
            return boards[board * BOARD_ROW + STATE] == ON_BELT;
        }

        private boolean isStartFree() {
            for (int board = 0; board < loaded; board++) {
                if (isOnBelt(board) && boards[board * BOARD_ROW + CELL] < numbers[GAP]) {
                    return false;
                }
            }
            return true;
        }

        int beltLength() {
            return firstCellOf(ZONES);
        }

        /** The zone after the last one begins where the belt ends. */
        int firstCellOf(int zone) {
            int cell = 0;
            for (int before = 0; before < zone && before < ZONES; before++) {
                cell += zones[before * ZONE_ROW + LENGTH];
            }
            return cell;
        }

        private int zoneAt(int cell) {
            int end = 0;
            for (int zone = 0; zone < ZONES - 1; zone++) {
                end += zones[zone * ZONE_ROW + LENGTH];
                if (cell < end) {
                    return zone;
                }
            }
            return ZONES - 1;
        }

        int boardsThatAre(int state) {
            int sum = 0;
            for (int board = 0; board < loaded; board++) {
                if (boards[board * BOARD_ROW + STATE] == state) {
                    sum++;
                }
            }
            return sum;
        }

        int boardsLeftFaultless() {
            int sum = 0;
            for (int board = 0; board < loaded; board++) {
                int row = board * BOARD_ROW;
                if (boards[row + STATE] == LEFT && boards[row + FAULTS] == 0) {
                    sum++;
                }
            }
            return sum;
        }

        int boardsIn(int zone) {
            int sum = 0;
            for (int board = 0; board < loaded; board++) {
                if (isOnBelt(board) && boards[board * BOARD_ROW + ZONE] == zone) {
                    sum++;
                }
            }
            return sum;
        }

        int weightIn(int zone) {
            int sum = 0;
            for (int board = 0; board < loaded; board++) {
                if (isOnBelt(board) && boards[board * BOARD_ROW + ZONE] == zone) {
                    sum += boards[board * BOARD_ROW + WEIGHT];
                }
            }
            return sum;
        }

        int boardsWithFault(int kind, int cell) {
            int sum = 0;
            for (int board = 0; board < loaded; board++) {
                if (boards[board * BOARD_ROW + FAULT_CELLS + kind] == cell) {
                    sum++;
                }
            }
            return sum;
        }

        /** Bit k for the cell k; the longest belt has fewer cells than a long has bits. */
        long setOfFaultCells() {
            long cells = 0;
            for (int board = 0; board < loaded; board++) {
                for (int kind = 0; kind < KINDS; kind++) {
                    int cell = boards[board * BOARD_ROW + FAULT_CELLS + kind];
                    if (cell != NONE) {
                        cells |= 1L << cell;
                    }
                }
            }
            return cells;
        }
    }

    /** All that undo() brings back: the oven and the slots. */
    private static final class Moment {
        final Oven oven = new Oven();
        private final Oven[] slots = new Oven[SLOTS];
        private final boolean[] filled = new boolean[SLOTS];

        Moment() {
            for (int slot = 0; slot < SLOTS; slot++) {
                slots[slot] = new Oven();
            }
        }

        void become(Moment other) {
            oven.become(other.oven);
            for (int slot = 0; slot < SLOTS; slot++) {
                filled[slot] = other.filled[slot];
                if (filled[slot]) {
                    slots[slot].become(other.slots[slot]);
                }
            }
        }

        int takeSnapshot(int slot) {
            if (!isWithin(slot, 0, SLOTS - 1)) {
                return INVALID_ARGUMENT;
            }
            slots[slot].become(oven);
            filled[slot] = true;
            return oven.ticks;
        }

        int restoreSnapshot(int slot) {
            if (!isWithin(slot, 0, SLOTS - 1)) {
                return INVALID_ARGUMENT;
            }
            if (!filled[slot]) {
                return ILLEGAL_STATE;
            }
            oven.become(slots[slot]);
            return oven.ticks;
        }

        int snapshots() {
            int sum = 0;
            for (int slot = 0; slot < SLOTS; slot++) {
                if (filled[slot]) {
                    sum++;
                }
            }
            return sum;
        }
    }

    /** The states that undo() can go back to, in a ring of rows that are made once. */
    private static final class History {
        // One row more than states are kept: an action is written there before it is known to succeed.
        private static final int ROWS = HISTORY + 1;

        private final Moment[] rows = new Moment[ROWS];
        private int oldest;
        int recorded;

        History() {
            for (int row = 0; row < ROWS; row++) {
                rows[row] = new Moment();
            }
        }

        /** Goes before an action; recordUnlessError() goes after it. */
        void keep(Moment now) {
            rows[(oldest + recorded) % ROWS].become(now);
        }

        int recordUnlessError(int answer) {
            if (answer >= 0) {
                if (recorded < HISTORY) {
                    recorded++;
                } else {
                    oldest = (oldest + 1) % ROWS;
                }
            }
            return answer;
        }

        int goBack(Moment now) {
            if (recorded == 0) {
                return ILLEGAL_STATE;
            }
            recorded--;
            now.become(rows[(oldest + recorded) % ROWS]);
            return recorded;
        }
    }

    /** The text, which holds orders if it has no fault. */
    private static final class Text {
        // What may come next while a text is read.
        private static final int WRONG = -1;
        private static final int AT_ORDER = 0;
        private static final int AT_CURVE = 1;
        private static final int IN_CURVE = 2;
        private static final int AFTER_CURVE = 3;
        private static final int AT_NUMBER = 4;
        private static final int IN_NUMBER = 5;
        private static final int AFTER_NUMBER = 6;

        private final int[] characters = new int[TEXT_ROOM];
        int length;
        private int read;
        // The order that was read last; only "l" has a curve.
        int letter;
        int curve;
        int number;

        int add(int character) {
            if (!isWithin(character, 1, LAST_CHARACTER)) {
                return INVALID_ARGUMENT;
            }
            if (length >= TEXT_ROOM) {
                return CAPACITY_EXCEEDED;
            }
            characters[length] = character;
            length++;
            return length;
        }

        int wipe() {
            int previous = length;
            length = 0;
            read = 0;
            return previous;
        }

        /** NONE if the text has no fault. */
        int firstFault() {
            int place = AT_ORDER;
            for (int index = 0; index < length; index++) {
                place = placeAfter(place, characters[index]);
                if (place == WRONG) {
                    return index;
                }
            }
            return place == IN_NUMBER || place == AFTER_NUMBER ? NONE : length;
        }

        private static int placeAfter(int place, int character) {
            switch (place) {
                case AT_ORDER: return placeAfterLetter(character);
                case AT_CURVE: return placeAfterFirstDigit(character, IN_CURVE, AFTER_CURVE);
                case IN_CURVE: return isDigit(character) ? AFTER_CURVE : character == ',' ? AT_NUMBER : WRONG;
                case AFTER_CURVE: return character == ',' ? AT_NUMBER : WRONG;
                case AT_NUMBER: return placeAfterFirstDigit(character, IN_NUMBER, AFTER_NUMBER);
                case IN_NUMBER: return isDigit(character) ? AFTER_NUMBER : character == ';' ? AT_ORDER : WRONG;
                case AFTER_NUMBER: return character == ';' ? AT_ORDER : WRONG;
                default: return WRONG;
            }
        }

        private static int placeAfterLetter(int character) {
            switch (character) {
                case 'l': return AT_CURVE;
                case 'p':
                case 't':
                case 's': return AT_NUMBER;
                default: return WRONG;
            }
        }

        private static int placeAfterFirstDigit(int character, int ifMoreMayCome, int ifNone) {
            if (!isDigit(character)) {
                return WRONG;
            }
            return character == '0' ? ifNone : ifMoreMayCome;
        }

        private static boolean isDigit(int character) {
            return isWithin(character, '0', '9');
        }

        /** Only for a text without a fault. Reads the next order, if there is one. */
        boolean readOrder() {
            if (read >= length) {
                return false;
            }
            letter = characters[read];
            number = 0;
            read++;
            while (read < length && characters[read] != ';') {
                if (characters[read] == ',') {
                    curve = number;
                    number = 0;
                } else {
                    number = number * 10 + characters[read] - '0';
                }
                read++;
            }
            read++;
            return true;
        }
    }
}
