import java.util.Random;

/** Runs of calls chosen by a fixed seed; every answer is held against PlainModel's. */
public final class RandomRunsTest {
    private static final int RUNS = 150;
    private static final int CALLS = 512;
    private static final int[] STRANGE = {Integer.MIN_VALUE, -2001, -1009, -1, 0, 1, 7, 31, 100, 301, Integer.MAX_VALUE};

    private final Random random;
    private final Check check;
    private final BeggingBoards it = new BeggingBoards();
    private final PlainModel model = new PlainModel();
    private final String run;
    private String pending = "";

    private RandomRunsTest(Check check, int seed) {
        this.check = check;
        this.random = new Random(seed);
        this.run = "run " + seed + ", ";
    }

    public static void main(String[] args) {
        Check check = new Check("RandomRunsTest");
        for (int seed = 0; seed < RUNS && check.isFine(); seed++) {
            new RandomRunsTest(check, seed).play();
        }
        check.end();
    }

    private void play() {
        for (int call = 0; call < CALLS && check.isFine(); call++) {
            step(call);
            if (call % 16 == 15) {
                lookAtAll("after " + call);
            }
        }
    }

    private int among(int least, int most) {
        if (random.nextInt(60) == 0) {
            return STRANGE[random.nextInt(STRANGE.length)];
        }
        if (random.nextInt(40) == 0) {
            return random.nextBoolean() ? least - 1 : most + 1;
        }
        return least + random.nextInt(most - least + 1);
    }

    private void due(String call, int got, int want) {
        check.due(run + call, got, want);
    }

    private void step(int call) {
        int dice = random.nextInt(100);
        String name = call + ": ";
        if (dice < 4) {
            setZone(name);
        } else if (dice < 14) {
            setSomething(name);
        } else if (dice < 40) {
            int curve = among(0, 3);
            int weight = among(1, 9);
            due(name + "load " + curve + " " + weight, it.load(curve, weight), model.load(curve, weight));
        } else if (dice < 44) {
            int board = among(0, Math.max(0, model.count(1) - 1));
            due(name + "takeOff " + board, it.takeOff(board), model.takeOff(board));
        } else if (dice < 62) {
            int ticks = random.nextInt(12) == 0 ? among(1, 99) : among(1, 4);
            due(name + "pass " + ticks, it.pass(ticks), model.pass(ticks));
        } else if (dice < 69) {
            goBackOrKeep(name, dice);
        } else if (dice < 85) {
            write(name);
        } else {
            forecast(name);
        }
    }

    private void setZone(String name) {
        int zone = among(0, 5);
        int length = among(2, 8);
        int target = among(20, 300);
        int power = among(1, 20);
        due(name + "setZone " + zone + " " + length + " " + target + " " + power,
                it.setZone(zone, length, target, power), model.setZone(zone, length, target, power));
    }

    private void setSomething(String name) {
        if (random.nextBoolean()) {
            int curve = among(0, 3);
            int what = among(0, 5);
            int[] least = {1, 20, 0, 0, 20, 20};
            int[] most = {99, 300, 12, 12, 300, 300};
            int column = Math.floorMod(what, 6);
            int value = among(least[column], most[column]);
            due(name + "setCurve " + curve + " " + what + " " + value,
                    it.setCurve(curve, what, value), model.setCurve(curve, what, value));
        } else {
            int what = among(0, 3);
            int[] least = {1, 1, 0, 0};
            int[] most = {3, 20, 20, 9};
            int column = Math.floorMod(what, 4);
            int value = among(least[column], random.nextInt(3) > 0 ? Math.min(4, most[column]) : most[column]);
            due(name + "set " + what + " " + value, it.set(what, value), model.set(what, value));
        }
    }

    private void goBackOrKeep(String name, int dice) {
        int slot = among(0, 1);
        if (dice < 64) {
            due(name + "take " + slot, it.take(slot), model.take(slot));
        } else if (dice < 66) {
            due(name + "restore " + slot, it.restore(slot), model.restore(slot));
        } else {
            due(name + "undo", it.undo(), model.undo());
        }
    }

    private void write(String name) {
        if (pending.isEmpty() && random.nextInt(3) == 0) {
            pending = randomOrders();
        }
        if (random.nextInt(25) == 0) {
            due(name + "clearText", it.clearText(), model.clearText());
            pending = "";
        } else if (pending.isEmpty()) {
            due(name + "carryOut", it.carryOut(), model.carryOut());
        } else {
            int letters = 1 + random.nextInt(6);
            while (letters > 0 && !pending.isEmpty()) {
                append(name, pending.charAt(0));
                pending = pending.substring(1);
                letters--;
            }
        }
    }

    private void append(String name, int character) {
        due(name + "append " + character, it.append(character), model.append(character));
    }

    private String randomOrders() {
        StringBuilder orders = new StringBuilder();
        int howMany = 1 + random.nextInt(5);
        for (int i = 0; i < howMany; i++) {
            if (i > 0) {
                orders.append(';');
            }
            switch (random.nextInt(4)) {
                case 0 -> orders.append('l').append(among(0, 3)).append(',').append(among(1, 9));
                case 1 -> orders.append('p').append(among(1, 12));
                case 2 -> orders.append('t').append(among(0, 20));
                default -> orders.append('s').append(among(1, 3));
            }
        }
        if (random.nextInt(6) == 0) {
            orders.setCharAt(random.nextInt(orders.length()), "lpts;,0195\u00e9 ".charAt(random.nextInt(12)));
        }
        return orders.toString();
    }

    private void forecast(String name) {
        int board = among(0, Math.max(0, model.count(1) - 1));
        int curve = among(0, 3);
        int weight = among(1, 9);
        int speed = among(0, 3);
        due(name + "room", it.room(), model.room());
        due(name + "heaviest " + curve, it.heaviest(curve), model.heaviest(curve));
        due(name + "wouldFail " + curve + " " + weight + " " + speed,
                it.wouldFail(curve, weight, speed), model.wouldFail(curve, weight, speed));
        for (int what = -1; what <= 4; what++) {
            due(name + "foretell " + board + " " + what, it.foretell(board, what), model.foretell(board, what));
        }
    }

    private void lookAtAll(String name) {
        for (int what = -1; what <= 16; what++) {
            due(name + " count " + what, it.count(what), model.count(what));
        }
        for (int first = -1; first <= 6; first++) {
            for (int what = -1; what <= 7; what++) {
                due(name + " zone " + first + " " + what, it.zone(first, what), model.zone(first, what));
                due(name + " curve " + first + " " + what, it.curve(first, what), model.curve(first, what));
                due(name + " worstCell " + first + " " + what, it.worstCell(first, what), model.worstCell(first, what));
            }
        }
        for (int board = -1; board <= 31; board++) {
            for (int what = -1; what <= 11; what++) {
                due(name + " board " + board + " " + what, it.board(board, what), model.board(board, what));
                due(name + " fault " + board + " " + what / 2 + " " + what % 2,
                        it.fault(board, what / 2, what % 2), model.fault(board, what / 2, what % 2));
            }
        }
        due(name + " faultCells", it.faultCells(), model.faultCells());
    }
}
