import java.lang.management.ManagementFactory;
import java.lang.reflect.Method;

/** No call throws for any arguments, and calls make next to nothing in the room that they share. */
public final class LimitsTest {
    private static final int[] VALUES = {
        Integer.MIN_VALUE, Integer.MIN_VALUE + 1, -1009, -1, 0, 1, 2, 3, 4, 5, 6, 9, 11, 29, 30, 31, 100, 256,
        357913942, 715827883, Integer.MAX_VALUE - 1, Integer.MAX_VALUE};
    private static final int[] ERRORS = {-1001, -1002, -1003, -1009};
    private static final long ROOM_OF_AN_OBJECT = 120_000;
    private static final long ROOM_OF_ITS_CALLS = 60_000;

    private LimitsTest() {
    }

    public static void main(String[] args) throws ReflectiveOperationException {
        Check check = new Check("LimitsTest");
        for (int state = 0; state < 4; state++) {
            for (Method method : BeggingBoards.class.getDeclaredMethods()) {
                if (java.lang.reflect.Modifier.isPublic(method.getModifiers())) {
                    everyArgument(check, state, method);
                }
            }
        }
        roomOfCalls(check);
        check.end();
    }

    private static BeggingBoards inState(int state) {
        BeggingBoards x = new BeggingBoards();
        if (state >= 1) {
            x.set(1, 1);
            for (int board = 0; board < (state == 1 ? 3 : 30); board++) {
                x.load(board % 4, 1 + board % 9);
                x.pass(1);
            }
            x.takeOff(x.count(1) - 1);
            x.take(1);
            x.append('p');
            x.append('9');
        }
        if (state == 3) {
            for (int i = 0; i < 51; i++) {
                x.pass(99);
            }
            for (int i = 0; i < 100; i++) {
                x.append(255);
            }
        }
        return x;
    }

    private static void everyArgument(Check check, int state, Method method) throws ReflectiveOperationException {
        BeggingBoards x = inState(state);
        int places = method.getParameterCount();
        int rounds = 1;
        for (int place = 0; place < places; place++) {
            rounds *= VALUES.length;
        }
        for (int round = 0; round < Math.min(rounds, 20_000); round++) {
            Object[] arguments = new Object[places];
            int rest = places > 3 ? round * 11 : round;
            for (int place = 0; place < places; place++) {
                arguments[place] = VALUES[rest % VALUES.length];
                rest /= VALUES.length;
            }
            int answer = (Integer) method.invoke(x, arguments);
            check.holds(method.getName() + " answered " + answer, isKnown(answer));
        }
    }

    private static boolean isKnown(int answer) {
        boolean known = answer >= -300 && answer <= 5000 || answer <= -2000 && answer >= -2100;
        for (int error : ERRORS) {
            known = known || answer == error;
        }
        return known;
    }

    private static void roomOfCalls(Check check) {
        var threads = (com.sun.management.ThreadMXBean) ManagementFactory.getThreadMXBean();
        long thread = Thread.currentThread().getId();
        inState(1);
        long start = threads.getThreadAllocatedBytes(thread);
        BeggingBoards x = new BeggingBoards();
        long made = threads.getThreadAllocatedBytes(thread);
        for (int call = 0; call < 512; call++) {
            oneOfAll(x, call);
        }
        long end = threads.getThreadAllocatedBytes(thread);
        check.holds("an object takes " + (made - start) + " bytes", made - start <= ROOM_OF_AN_OBJECT);
        check.holds("its calls take " + (end - made) + " bytes", end - made <= ROOM_OF_ITS_CALLS);
    }

    private static void oneOfAll(BeggingBoards x, int call) {
        switch (call % 16) {
            case 0 -> x.load(call / 16 % 4, 1 + call / 16 % 9);
            case 1 -> x.pass(2);
            case 2 -> x.heaviest(0);
            case 3 -> x.take(call / 16 % 2);
            case 4 -> x.append('p');
            case 5 -> x.append('1');
            case 6 -> x.carryOut();
            case 7 -> x.restore(0);
            case 8 -> x.undo();
            case 9 -> x.set(2, 5);
            case 10 -> x.worstCell(0, 0);
            case 11 -> x.faultCells();
            case 12 -> x.foretell(0, 0);
            case 13 -> x.room();
            case 14 -> x.wouldFail(1, 2, 0);
            default -> x.setCurve(0, 0, 30);
        }
    }
}
