import java.util.LinkedHashMap;
import java.util.Map;

/** All that an object answers to calls that change nothing, for a look before and after another call. */
final class Answers {
    private static final int MIN = Integer.MIN_VALUE;
    private static final int MAX = Integer.MAX_VALUE;

    private Answers() { }

    static Map<String, Integer> of(EventWindowsX x) {
        Map<String, Integer> seen = new LinkedHashMap<>();
        counts(x, seen);
        records(x, seen);
        sessions(x, seen);
        panes(x, seen);
        return seen;
    }

    private static void counts(EventWindowsX x, Map<String, Integer> seen) {
        seen.put("gap()", x.gap());
        seen.put("lateness()", x.lateness());
        seen.put("watermark()", x.watermark());
        seen.put("storedEvents()", x.storedEvents());
        seen.put("droppedCount()", x.droppedCount());
        seen.put("recordCount()", x.recordCount());
        seen.put("sessionCount()", x.sessionCount());
        seen.put("paneCount()", x.paneCount());
    }

    // Two numbers past either end of what can be read, and the far ends.
    private static void records(EventWindowsX x, Map<String, Integer> seen) {
        int count = x.recordCount();
        for (int i = -66; i <= 1; i++) {
            record(x, count + i, seen);
        }
        for (int seq : new int[] {MIN, -1, 0, MAX}) {
            record(x, seq, seen);
        }
    }

    private static void record(EventWindowsX x, int seq, Map<String, Integer> seen) {
        for (int field = -1; field <= 6; field++) {
            seen.put("recordField(" + seq + ", " + field + ")", x.recordField(seq, field));
        }
    }

    private static void sessions(EventWindowsX x, Map<String, Integer> seen) {
        for (int i = -1; i <= 33; i++) {
            for (int field = -1; field <= 6; field++) {
                seen.put("sessionField(" + i + ", " + field + ")", x.sessionField(i, field));
            }
        }
    }

    private static void panes(EventWindowsX x, Map<String, Integer> seen) {
        for (int i = -1; i <= 33; i++) {
            for (int field = -1; field <= 6; field++) {
                seen.put("paneField(" + i + ", " + field + ")", x.paneField(i, field));
            }
        }
    }

    /** The records that can be read, as one line each by their number. */
    static Map<Integer, String> readableRecords(EventWindowsX x) {
        Map<Integer, String> lines = new LinkedHashMap<>();
        int count = x.recordCount();
        for (int seq = Math.max(0, count - 64); seq < count; seq++) {
            StringBuilder line = new StringBuilder();
            for (int field = 0; field <= 4; field++) {
                line.append(x.recordField(seq, field)).append(' ');
            }
            lines.put(seq, line.toString());
        }
        return lines;
    }

    /** The sessions and panes of every key but one, a line for each. */
    static String otherKeys(EventWindowsX x, int key) {
        StringBuilder lines = new StringBuilder();
        for (int i = 0; i < x.sessionCount(); i++) {
            if (x.sessionField(i, 1) != key) {
                lines.append("session");
                for (int field = 1; field <= 5; field++) {
                    lines.append(' ').append(x.sessionField(i, field));
                }
                lines.append('\n');
            }
        }
        for (int i = 0; i < x.paneCount(); i++) {
            if (x.paneField(i, 1) != key) {
                lines.append("pane");
                for (int field = 1; field <= 4; field++) {
                    lines.append(' ').append(x.paneField(i, field));
                }
                lines.append('\n');
            }
        }
        return lines.toString();
    }
}
