/** Counts and prints the answers that are not the ones that are due. */
final class Check {
    private int looked = 0;
    private int wrong = 0;

    void due(String call, long got, long want) {
        looked++;
        if (got != want) {
            wrong++;
            System.out.println(call + " answered " + got + ", due is " + want);
        }
    }

    void isTrue(String what, boolean holds) {
        looked++;
        if (!holds) {
            wrong++;
            System.out.println("does not hold: " + what);
        }
    }

    /** The record with that number is (kind, key, start, end, value). */
    void record(EventWindowsX x, int seq, int kind, int key, int start, int end, int value) {
        String call = "recordField(" + seq + ", ";
        due(call + "F_KIND)", x.recordField(seq, EventWindowsX.F_KIND), kind);
        due(call + "F_KEY)", x.recordField(seq, EventWindowsX.F_KEY), key);
        due(call + "F_START)", x.recordField(seq, EventWindowsX.F_START), start);
        due(call + "F_END)", x.recordField(seq, EventWindowsX.F_END), end);
        due(call + "F_VALUE)", x.recordField(seq, EventWindowsX.F_VALUE), value);
    }

    /** The session at that position is (key, start, end, sum, events). */
    void session(EventWindowsX x, int i, int key, int start, int end, int sum, int events) {
        String call = "sessionField(" + i + ", ";
        due(call + "F_KEY)", x.sessionField(i, EventWindowsX.F_KEY), key);
        due(call + "F_START)", x.sessionField(i, EventWindowsX.F_START), start);
        due(call + "F_END)", x.sessionField(i, EventWindowsX.F_END), end);
        due(call + "F_VALUE)", x.sessionField(i, EventWindowsX.F_VALUE), sum);
        due(call + "F_EVENTS)", x.sessionField(i, EventWindowsX.F_EVENTS), events);
    }

    /** The outstanding pane at that position is (key, start, end, value). */
    void pane(EventWindowsX x, int i, int key, int start, int end, int value) {
        String call = "paneField(" + i + ", ";
        due(call + "F_KEY)", x.paneField(i, EventWindowsX.F_KEY), key);
        due(call + "F_START)", x.paneField(i, EventWindowsX.F_START), start);
        due(call + "F_END)", x.paneField(i, EventWindowsX.F_END), end);
        due(call + "F_VALUE)", x.paneField(i, EventWindowsX.F_VALUE), value);
    }

    /** The five counts that a call may change, beside W. */
    void counts(EventWindowsX x, int stored, int sessions, int panes, int records, int dropped) {
        due("storedEvents()", x.storedEvents(), stored);
        due("sessionCount()", x.sessionCount(), sessions);
        due("paneCount()", x.paneCount(), panes);
        due("recordCount()", x.recordCount(), records);
        due("droppedCount()", x.droppedCount(), dropped);
    }

    int wrongSoFar() {
        return wrong;
    }

    void end() {
        System.out.println(looked + " answers looked at, " + wrong + " wrong");
        if (wrong != 0) {
            System.exit(1);
        }
    }
}
