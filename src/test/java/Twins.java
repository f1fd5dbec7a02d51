import java.util.Map;
import java.util.function.ToIntFunction;

/**
 * Two objects with the same past. One of them gets a call that must change
 * nothing; then both live on alike, so that a change that no answer shows at
 * once still comes to light.
 */
final class Twins {
    private final Check check;

    Twins(Check check) {
        this.check = check;
    }

    void unchanged(States.State state, String call, ToIntFunction<EventWindowsX> made, int due) {
        differOnlyInDrops(state, call, made, due, 0);
    }

    void onlyDropped(States.State state, String call, ToIntFunction<EventWindowsX> made) {
        differOnlyInDrops(state, call, made, EventWindowsX.DROPPED, 1);
    }

    private void differOnlyInDrops(States.State state, String call, ToIntFunction<EventWindowsX> made, int due, int drops) {
        String what = state.name() + ", " + call;
        EventWindowsX x = state.make();
        EventWindowsX twin = state.make();
        Map<String, Integer> before = Answers.of(x);
        check.due(what, made.applyAsInt(x), due);
        sameBut(what + " at once", before, Answers.of(x), drops);
        liveOn(what, x, twin);
        sameBut(what + " later", Answers.of(twin), Answers.of(x), drops);
    }

    private void sameBut(String what, Map<String, Integer> before, Map<String, Integer> after, int drops) {
        before.merge("droppedCount()", drops, Integer::sum);
        check.same(what, before, after);
    }

    /** The same further calls on both: late, open, too old and linking events, then two steps of W. */
    void liveOn(String what, EventWindowsX x, EventWindowsX twin) {
        int w = x.watermark();
        both(what + ", early()", x, twin, EventWindowsX::early);
        for (int i = 0; i < 10; i++) {
            int key = i * 5 % 8;
            int time = Math.max(0, Math.min(1000000, w - 60 + 17 * i));
            both(what + ", later addEvent", x, twin, o -> o.addEvent(key, time, 11));
        }
        both(what + ", later advance", x, twin, o -> o.advance(w + 1));
        both(what + ", later early()", x, twin, EventWindowsX::early);
        both(what + ", later advance", x, twin, o -> o.advance(w + o.gap() + 60));
        for (int key = 0; key < 8; key++) {
            int late = key;
            both(what + ", later addEvent", x, twin, o -> o.addEvent(late, Math.min(1000000, w + 5), 3));
        }
    }

    private void both(String what, EventWindowsX x, EventWindowsX twin, ToIntFunction<EventWindowsX> call) {
        check.due(what, call.applyAsInt(x), call.applyAsInt(twin));
    }
}
