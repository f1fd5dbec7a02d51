import java.util.Map;

/** Counts and prints the answers that are not the ones that are due. */
final class Check {
    // A broken program may go wrong in every answer; the first ones tell enough.
    private static final int MOST_PRINTED = 200;

    // Far above what any test needs: a call that never ends must fail its test, not hold it up.
    private static final int MOST_SECONDS = 300;

    private int looked = 0;
    private int wrong = 0;
    private volatile String sentence = "";

    Check() {
        Thread watch = new Thread(this::stopInTheEnd);
        watch.setDaemon(true);
        watch.start();
    }

    private void stopInTheEnd() {
        try {
            Thread.sleep(1000L * MOST_SECONDS);
        } catch (InterruptedException e) {
            return;
        }
        System.out.println("[" + sentence + "] no end after " + MOST_SECONDS + " seconds");
        System.out.flush();
        Runtime.getRuntime().halt(1);
    }

    /** What follows tests these words of the document; they are told with every wrong answer. */
    void sentence(String words) {
        sentence = words;
    }

    void due(String call, long got, long want) {
        looked++;
        if (got != want) {
            tell(call + " answered " + got + ", due is " + want);
        }
    }

    void isTrue(String what, boolean holds) {
        looked++;
        if (!holds) {
            tell("does not hold: " + what);
        }
    }

    /** Every answer is the same in both looks at an object. */
    void same(String what, Map<String, Integer> before, Map<String, Integer> after) {
        looked += before.size();
        if (before.equals(after)) {
            return;
        }
        for (Map.Entry<String, Integer> e : before.entrySet()) {
            if (!e.getValue().equals(after.get(e.getKey()))) {
                tell(what + ": " + e.getKey() + " answers " + after.get(e.getKey()) + ", due is " + e.getValue());
            }
        }
        isTrue(what + ": the same calls were looked at", before.keySet().equals(after.keySet()));
    }

    private void tell(String what) {
        wrong++;
        if (wrong <= MOST_PRINTED) {
            System.out.println((sentence.isEmpty() ? "" : "[" + sentence + "] ") + what);
        }
    }

    /** The record with that number is (kind, key, start, end, value). */
    void record(EventWindowsX x, int seq, int kind, int key, int start, int end, int value) {
        String call = "recordField(" + seq + ", ";
        due(call + "F_KIND)", x.recordField(seq, EventWindowsX.F_KIND), kind);
        due(call + "F_KEY)", x.recordField(seq, EventWindowsX.F_KEY), key);
        due(call + "F_START)", x.recordField(seq, EventWindowsX.F_START), start);
        due(call + "F_END)", x.recordField(seq, EventWindowsX.F_END), end);
        due(call + "F_VALUE)", x.recordField(seq, EventWindowsX.F_VALUE), value);
    }

    /** The session at that position is (key, start, end, sum, events). */
    void session(EventWindowsX x, int i, int key, int start, int end, int sum, int events) {
        String call = "sessionField(" + i + ", ";
        due(call + "F_KEY)", x.sessionField(i, EventWindowsX.F_KEY), key);
        due(call + "F_START)", x.sessionField(i, EventWindowsX.F_START), start);
        due(call + "F_END)", x.sessionField(i, EventWindowsX.F_END), end);
        due(call + "F_VALUE)", x.sessionField(i, EventWindowsX.F_VALUE), sum);
        due(call + "F_EVENTS)", x.sessionField(i, EventWindowsX.F_EVENTS), events);
    }

    /** The outstanding pane at that position is (key, start, end, value). */
    void pane(EventWindowsX x, int i, int key, int start, int end, int value) {
        String call = "paneField(" + i + ", ";
        due(call + "F_KEY)", x.paneField(i, EventWindowsX.F_KEY), key);
        due(call + "F_START)", x.paneField(i, EventWindowsX.F_START), start);
        due(call + "F_END)", x.paneField(i, EventWindowsX.F_END), end);
        due(call + "F_VALUE)", x.paneField(i, EventWindowsX.F_VALUE), value);
    }

    /** The five counts that a call may change, beside W. */
    void counts(EventWindowsX x, int stored, int sessions, int panes, int records, int dropped) {
        due("storedEvents()", x.storedEvents(), stored);
        due("sessionCount()", x.sessionCount(), sessions);
        due("paneCount()", x.paneCount(), panes);
        due("recordCount()", x.recordCount(), records);
        due("droppedCount()", x.droppedCount(), dropped);
    }

    int wrongSoFar() {
        return wrong;
    }

    void end() {
        System.out.println(looked + " answers looked at, " + wrong + " wrong");
        if (wrong != 0) {
            System.exit(1);
        }
    }
}
