import java.util.ArrayDeque;
import java.util.ArrayList;
import java.util.Deque;
import java.util.HashMap;
import java.util.HashSet;
import java.util.List;
import java.util.Map;
import java.util.Set;
import java.util.TreeMap;
import java.util.regex.Matcher;
import java.util.regex.Pattern;

/** The document once more, written to be plain and not to be sparing; RandomRunsTest holds the class against it. */
final class PlainModel {
    private static final int INVALID = -1001;
    private static final int ILLEGAL = -1002;
    private static final int FULL = -1003;
    private static final int NONE = -1009;

    private static final int[][] CURVE_RANGES = {{1, 99}, {20, 300}, {0, 99}, {0, 99}, {20, 300}, {20, 300}};
    private static final int[][] SET_RANGES = {{1, 3}, {1, 20}, {0, 99}, {0, 9}};
    private static final Pattern ORDERS = orders();

    private static final class Zone {
        int length = 4;
        int target;
        int power = 5;
        int warmth;
    }

    private static final class Board {
        int curve;
        int weight;
        int state;
        int cell;
        int degrees = 20;
        int rise;
        int peak = 20;
        int above;
        int plea;
        int leftAt = NONE;
        Map<Integer, int[]> faults = new HashMap<>();

        int kinds() {
            int kinds = 0;
            for (int kind : faults.keySet()) {
                kinds += 1 << kind;
            }
            return kinds;
        }
    }

    private static final class Oven {
        List<Zone> zones = new ArrayList<>();
        int[][] curves = new int[4][];
        int[] belt = {2, 3, 6, 1};
        int ticks;
        int slowed;
        int hastened;
        List<Board> boards = new ArrayList<>();

        Oven copy() {
            Oven copy = new Oven();
            for (Zone zone : zones) {
                Zone other = new Zone();
                other.length = zone.length;
                other.target = zone.target;
                other.power = zone.power;
                other.warmth = zone.warmth;
                copy.zones.add(other);
            }
            for (int i = 0; i < 4; i++) {
                copy.curves[i] = curves[i].clone();
            }
            copy.belt = belt.clone();
            copy.ticks = ticks;
            copy.slowed = slowed;
            copy.hastened = hastened;
            for (Board board : boards) {
                Board other = new Board();
                other.curve = board.curve;
                other.weight = board.weight;
                other.state = board.state;
                other.cell = board.cell;
                other.degrees = board.degrees;
                other.rise = board.rise;
                other.peak = board.peak;
                other.above = board.above;
                other.plea = board.plea;
                other.leftAt = board.leftAt;
                other.faults = new HashMap<>(board.faults);
                copy.boards.add(other);
            }
            return copy;
        }

        List<Zone> zoneOfEachCell() {
            List<Zone> cells = new ArrayList<>();
            for (Zone zone : zones) {
                for (int i = 0; i < zone.length; i++) {
                    cells.add(zone);
                }
            }
            return cells;
        }

        List<Board> onBelt() {
            return boards.stream().filter(b -> b.state == 0).toList();
        }

        List<Board> in(Zone zone) {
            List<Zone> cells = zoneOfEachCell();
            return onBelt().stream().filter(b -> cells.get(b.cell) == zone).toList();
        }

        static int weight(List<Board> boards) {
            return boards.stream().mapToInt(b -> b.weight).sum();
        }

        boolean startIsFree() {
            return onBelt().stream().noneMatch(b -> b.cell < belt[1]);
        }

        Board put(int curve, int weight) {
            Board board = new Board();
            board.curve = curve;
            board.weight = weight;
            boards.add(board);
            return board;
        }

        int tick() {
            List<Zone> cells = zoneOfEachCell();
            int gone = 0;
            for (Board b : onBelt()) {
                b.cell += belt[0];
                if (b.cell >= cells.size()) {
                    gone++;
                    b.state = 1;
                    b.leftAt = ticks;
                    if (b.above < curves[b.curve][2]) {
                        b.faults.putIfAbsent(3, new int[] {cells.size(), ticks});
                    }
                    if (b.peak < curves[b.curve][4]) {
                        b.faults.putIfAbsent(4, new int[] {cells.size(), ticks});
                    }
                }
            }
            for (Zone zone : zones) {
                zone.warmth -= belt[3] * weight(in(zone)) / 5;
                if (zone.warmth < 20) {
                    zone.warmth = 20;
                }
                for (int i = 0; i < zone.power; i++) {
                    zone.warmth += Integer.signum(zone.target - zone.warmth);
                }
            }
            int slower = 0;
            int faster = 0;
            for (Board b : onBelt()) {
                int[] curve = curves[b.curve];
                int[] here = {b.cell, ticks};
                b.rise = (cells.get(b.cell).warmth - b.degrees) / (b.weight + 1);
                b.degrees += b.rise;
                b.peak = Math.max(b.peak, b.degrees);
                b.above += b.degrees > curve[1] ? 1 : 0;
                b.plea = 0;
                if (b.above > curve[3]) {
                    b.faults.putIfAbsent(1, here);
                    b.plea = 2;
                }
                if (b.rise > curve[0]) {
                    b.faults.putIfAbsent(0, here);
                    b.plea = 1;
                }
                if (b.degrees > curve[5]) {
                    b.faults.putIfAbsent(2, here);
                }
                slower += b.plea == 1 ? b.weight : 0;
                faster += b.plea == 2 ? b.weight : 0;
            }
            if (belt[2] != 0 && slower - faster >= belt[2] && belt[0] > 1) {
                belt[0]--;
                slowed++;
            }
            if (belt[2] != 0 && faster - slower >= belt[2] && belt[0] < 3) {
                belt[0]++;
                hastened++;
            }
            ticks++;
            return gone;
        }
    }

    private static final class Whole {
        Oven oven = new Oven();
        Oven[] slots = new Oven[2];

        Whole copy() {
            Whole copy = new Whole();
            copy.oven = oven.copy();
            copy.slots = slots.clone();
            return copy;
        }
    }

    private Whole now = new Whole();
    private final Deque<Whole> history = new ArrayDeque<>();
    private String text = "";

    PlainModel() {
        for (int target : new int[] {120, 160, 180, 240, 230, 60}) {
            Zone zone = new Zone();
            zone.target = target;
            zone.warmth = target;
            now.oven.zones.add(zone);
        }
        for (int i = 0; i < 4; i++) {
            now.oven.curves[i] = new int[] {40, 180, 2, 6, 190, 240};
        }
    }

    private static Pattern orders() {
        String number = "(?:0|[1-9][0-9]?)";
        String order = "(?:l" + number + "," + number + "|[pts]" + number + ")";
        return Pattern.compile(order + "(?:;" + order + ")*");
    }

    private void record() {
        history.addLast(now.copy());
        if (history.size() > 5) {
            history.removeFirst();
        }
    }

    int setZone(int zone, int length, int target, int power) {
        if (zone < 0 || zone > 5 || length < 2 || length > 8 || target < 20 || target > 300
                || power < 1 || power > 20) {
            return INVALID;
        }
        if (!now.oven.onBelt().isEmpty()) {
            return ILLEGAL;
        }
        record();
        Zone it = now.oven.zones.get(zone);
        it.length = length;
        it.target = target;
        it.warmth = target;
        it.power = power;
        return now.oven.zoneOfEachCell().size();
    }

    int setCurve(int curve, int what, int value) {
        if (curve < 0 || curve > 3 || what < 0 || what > 5
                || value < CURVE_RANGES[what][0] || value > CURVE_RANGES[what][1]) {
            return INVALID;
        }
        record();
        int previous = now.oven.curves[curve][what];
        now.oven.curves[curve][what] = value;
        return previous;
    }

    private int setNow(int what, int value, boolean recorded) {
        if (what < 0 || what > 3 || value < SET_RANGES[what][0] || value > SET_RANGES[what][1]) {
            return INVALID;
        }
        if (recorded) {
            record();
        }
        int previous = now.oven.belt[what];
        now.oven.belt[what] = value;
        return previous;
    }

    int set(int what, int value) {
        return setNow(what, value, true);
    }

    private int loadNow(int curve, int weight, boolean recorded) {
        if (curve < 0 || curve > 3 || weight < 1 || weight > 9) {
            return INVALID;
        }
        if (!now.oven.startIsFree()) {
            return ILLEGAL;
        }
        if (now.oven.boards.size() == 30) {
            return FULL;
        }
        if (recorded) {
            record();
        }
        now.oven.put(curve, weight);
        return now.oven.boards.size() - 1;
    }

    int load(int curve, int weight) {
        return loadNow(curve, weight, true);
    }

    private Board find(int board) {
        return board < 0 || board >= now.oven.boards.size() ? null : now.oven.boards.get(board);
    }

    private int takeOffNow(int board, boolean recorded) {
        if (find(board) == null) {
            return INVALID;
        }
        if (find(board).state != 0) {
            return ILLEGAL;
        }
        if (recorded) {
            record();
        }
        find(board).state = 2;
        return find(board).cell;
    }

    int takeOff(int board) {
        return takeOffNow(board, true);
    }

    private int passNow(int ticks, boolean recorded) {
        if (ticks < 1 || ticks > 99) {
            return INVALID;
        }
        if (now.oven.ticks + ticks > 5000) {
            return FULL;
        }
        if (recorded) {
            record();
        }
        int gone = 0;
        for (int i = 0; i < ticks; i++) {
            gone += now.oven.tick();
        }
        return gone;
    }

    int pass(int ticks) {
        return passNow(ticks, true);
    }

    int take(int slot) {
        if (slot != 0 && slot != 1) {
            return INVALID;
        }
        record();
        now.slots[slot] = now.oven.copy();
        return now.oven.ticks;
    }

    int restore(int slot) {
        if (slot != 0 && slot != 1) {
            return INVALID;
        }
        if (now.slots[slot] == null) {
            return ILLEGAL;
        }
        record();
        now.oven = now.slots[slot].copy();
        return now.oven.ticks;
    }

    int undo() {
        if (history.isEmpty()) {
            return ILLEGAL;
        }
        now = history.removeLast();
        return history.size();
    }

    int append(int character) {
        if (character < 1 || character > 255) {
            return INVALID;
        }
        if (text.length() == 100) {
            return FULL;
        }
        text += (char) character;
        return text.length();
    }

    int clearText() {
        int previous = text.length();
        text = "";
        return previous;
    }

    static int textFault(String text) {
        for (int i = 0; i < text.length(); i++) {
            Matcher matcher = ORDERS.matcher(text.substring(0, i + 1));
            if (!matcher.matches() && !matcher.hitEnd()) {
                return i;
            }
        }
        return ORDERS.matcher(text).matches() ? -1 : text.length();
    }

    int carryOut() {
        int fault = textFault(text);
        if (fault >= 0) {
            return -2000 - fault;
        }
        record();
        int done = 0;
        for (String order : text.split(";")) {
            String[] numbers = order.substring(1).split(",");
            int number = Integer.parseInt(numbers[0]);
            int answer = switch (order.charAt(0)) {
                case 'l' -> loadNow(number, Integer.parseInt(numbers[1]), false);
                case 'p' -> passNow(number, false);
                case 't' -> takeOffNow(number, false);
                default -> setNow(0, number, false);
            };
            if (answer < 0) {
                break;
            }
            done++;
        }
        text = "";
        return done;
    }

    int count(int what) {
        List<Board> boards = now.oven.boards;
        return switch (what) {
            case 0 -> now.oven.ticks;
            case 1 -> boards.size();
            case 2 -> now.oven.onBelt().size();
            case 3 -> (int) boards.stream().filter(b -> b.state == 1).count();
            case 4 -> (int) boards.stream().filter(b -> b.state == 1 && b.faults.isEmpty()).count();
            case 5 -> (int) boards.stream().filter(b -> b.state == 2).count();
            case 6 -> now.oven.zoneOfEachCell().size();
            case 7, 8, 9, 10 -> now.oven.belt[what - 7];
            case 11 -> now.oven.slowed;
            case 12 -> now.oven.hastened;
            case 13 -> (now.slots[0] == null ? 0 : 1) + (now.slots[1] == null ? 0 : 1);
            case 14 -> history.size();
            case 15 -> text.length();
            default -> INVALID;
        };
    }

    int zone(int zone, int what) {
        if (zone < 0 || zone > 5 || what < 0 || what > 6) {
            return INVALID;
        }
        Zone it = now.oven.zones.get(zone);
        return switch (what) {
            case 0 -> it.length;
            case 1 -> it.target;
            case 2 -> it.power;
            case 3 -> it.warmth;
            case 4 -> now.oven.zoneOfEachCell().indexOf(it);
            case 5 -> now.oven.in(it).size();
            default -> Oven.weight(now.oven.in(it));
        };
    }

    int curve(int curve, int what) {
        return curve < 0 || curve > 3 || what < 0 || what > 5 ? INVALID : now.oven.curves[curve][what];
    }

    int board(int board, int what) {
        if (find(board) == null || what < 0 || what > 10) {
            return INVALID;
        }
        Board b = find(board);
        return switch (what) {
            case 0 -> b.curve;
            case 1 -> b.weight;
            case 2 -> b.state;
            case 3 -> b.state == 0 ? b.cell : NONE;
            case 4 -> b.degrees;
            case 5 -> b.rise;
            case 6 -> b.peak;
            case 7 -> b.above;
            case 8 -> b.kinds();
            case 9 -> b.plea;
            default -> b.leftAt;
        };
    }

    int fault(int board, int kind, int what) {
        if (find(board) == null || kind < 0 || kind > 4 || what < 0 || what > 1) {
            return INVALID;
        }
        int[] first = find(board).faults.get(kind);
        return first == null ? NONE : first[what];
    }

    int worstCell(int kind, int what) {
        if (kind < 0 || kind > 4 || what < 0 || what > 1) {
            return INVALID;
        }
        TreeMap<Integer, Integer> cells = new TreeMap<>();
        for (Board b : now.oven.boards) {
            if (b.faults.containsKey(kind)) {
                cells.merge(b.faults.get(kind)[0], 1, Integer::sum);
            }
        }
        if (cells.isEmpty()) {
            return what == 0 ? NONE : 0;
        }
        int most = cells.values().stream().max(Integer::compare).get();
        int cell = cells.keySet().stream().filter(c -> cells.get(c) == most).findFirst().get();
        return what == 0 ? cell : most;
    }

    int faultCells() {
        Set<Integer> cells = new HashSet<>();
        for (Board b : now.oven.boards) {
            b.faults.values().forEach(first -> cells.add(first[0]));
        }
        return cells.size();
    }

    int foretell(int board, int what) {
        if (find(board) == null || what < 0 || what > 3) {
            return INVALID;
        }
        if (find(board).state != 0) {
            return ILLEGAL;
        }
        Oven oven = now.oven.copy();
        Board b = oven.boards.get(board);
        int ticks = 0;
        while (b.state == 0) {
            oven.tick();
            ticks++;
        }
        return switch (what) {
            case 0 -> b.kinds();
            case 1 -> b.peak;
            case 2 -> ticks;
            default -> b.degrees;
        };
    }

    int wouldFail(int curve, int weight, int speed) {
        if (curve < 0 || curve > 3 || weight < 1 || weight > 9 || speed < 0 || speed > 3) {
            return INVALID;
        }
        Oven oven = now.oven.copy();
        if (speed > 0) {
            oven.belt[0] = speed;
            oven.belt[2] = 0;
        }
        Board b = oven.put(curve, weight);
        while (b.state == 0) {
            oven.tick();
        }
        return b.kinds();
    }

    int heaviest(int curve) {
        if (curve < 0 || curve > 3) {
            return INVALID;
        }
        int best = NONE;
        for (int weight = 1; weight <= 9; weight++) {
            if (wouldFail(curve, weight, 0) == 0) {
                best = weight;
            }
        }
        return best;
    }

    int room() {
        Oven oven = now.oven.copy();
        int ticks = 0;
        while (!oven.startIsFree()) {
            oven.tick();
            ticks++;
        }
        return ticks;
    }
}
