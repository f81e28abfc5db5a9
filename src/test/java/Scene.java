/**
 * A state that the same calls make as often as it is needed. So all of it can be told, the history, the slots and the
 * text too, which only calls that change something show, and no object is used for more than 512 calls.
 */
final class Scene {
    /** What is done with an object, and what it answers. */
    interface Call {
        int on(BeggingBoards x);
    }

    /** What is done with an object, of which the answers are of no matter. */
    interface Calls {
        void on(BeggingBoards x);
    }

    private static final Call NOTHING = x -> 0;

    final String name;
    private final Calls calls;
    private String told;

    Scene(String name, Calls calls) {
        this.name = name;
        this.calls = calls;
    }

    BeggingBoards make() {
        BeggingBoards x = new BeggingBoards();
        calls.on(x);
        return x;
    }

    /** The same, with more calls after it. */
    Scene then(String more, Calls further) {
        return new Scene(name + ", " + more, x -> {
            calls.on(x);
            further.on(x);
        });
    }

    /** All that can be told of it. */
    String told() {
        if (told == null) {
            told = toldAfter(NOTHING);
        }
        return told;
    }

    /** All that can be told of it after a call: as it is, and after each way back and on from there. */
    String toldAfter(Call call) {
        StringBuilder all = new StringBuilder();
        BeggingBoards x = make();
        call.on(x);
        all.append(x.count(14)).append(' ').append(x.count(15)).append(' ');
        all.append(ovenAfter(call, NOTHING));
        all.append(Looking.atPart(afterBoth(call, NOTHING), Looking.FORECASTS));
        for (int undone = 1; undone <= 6; undone++) {
            int howOften = undone;
            all.append(ovenAfter(call, y -> undo(y, howOften)));
        }
        all.append(ovenAfter(call, y -> y.restore(0)));
        all.append(ovenAfter(call, y -> y.restore(1)));
        all.append(ovenAfter(call, BeggingBoards::carryOut));
        all.append(ovenAfter(call, BeggingBoards::clearText));
        return all.toString();
    }

    /** What the second call answers, and what can be looked at then but for the history and the text. */
    String ovenAfter(Call first, Call second) {
        StringBuilder all = new StringBuilder();
        BeggingBoards x = make();
        first.on(x);
        all.append('\n').append(second.on(x)).append(": ");
        for (int part = 0; part < Looking.FORECASTS; part++) {
            all.append(Looking.atPart(afterBoth(first, second), part));
        }
        return all.toString();
    }

    private BeggingBoards afterBoth(Call first, Call second) {
        BeggingBoards x = make();
        first.on(x);
        second.on(x);
        return x;
    }

    private static int undo(BeggingBoards x, int howOften) {
        int answer = 0;
        for (int i = 0; i < howOften; i++) {
            answer = x.undo();
        }
        return answer;
    }
}
