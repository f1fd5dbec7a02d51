import java.util.ArrayList;
import java.util.Arrays;
import java.util.HashMap;
import java.util.List;
import java.util.Map;
import java.util.function.Consumer;
import java.util.function.Supplier;

/**
 * Every run of a few calls over a few events, looked at through the answers
 * alone, as a consumer would: nothing here tells the program's steps again, only
 * what the document says of whole runs.
 */
public final class WholeRunsTest {
    private static final int RETRACT = EventWindowsX.RETRACT;

    private static final Check check = new Check();
    private static final Guarantees guarantees = new Guarantees(check);

    public static void main(String[] args) {
        runs(2, 0, 5, new int[] {0, 1, 2, 3, 4});
        runs(2, 2, 5, new int[] {0, 1, 2, 3, 4});
        runs(3, 1, 5, new int[] {0, 2, 4, 5, 7});
        runs(3, 4, 5, new int[] {0, 2, 3, 4, 6});
        runs(1, 1, 5, new int[] {0, 1, 2});
        twoKeys();
        fullStore();
        check.end();
    }

    // Values that cancel out, so that a session can come back to an earlier sum.
    private static void runs(int gap, int lateness, int length, int[] times) {
        List<Consumer<Run>> calls = new ArrayList<>();
        for (int time : times) {
            calls.add(run -> run.addEvent(0, time, 1));
            calls.add(run -> run.addEvent(0, time, -1));
        }
        calls.add(Run::early);
        calls.add(run -> run.advance(1));
        calls.add(run -> run.advance(gap));
        everyRun(() -> new Run(gap, lateness), calls, length);
    }

    private static void twoKeys() {
        List<Consumer<Run>> calls = new ArrayList<>();
        for (int key : new int[] {7, 0}) {
            for (int time = 0; time <= 4; time += 2) {
                int at = time;
                calls.add(run -> run.addEvent(key, at, 5));
            }
        }
        calls.add(Run::early);
        calls.add(run -> run.advance(3));
        everyRun(() -> new Run(3, 2), calls, 6);
    }

    // From 30 stored events on, so that the short run meets FULL.
    private static void fullStore() {
        List<Consumer<Run>> calls = new ArrayList<>();
        for (int time = 9; time <= 13; time++) {
            int at = time;
            calls.add(run -> run.addEvent(4, at, 3));
        }
        calls.add(Run::early);
        calls.add(run -> run.advance(11));
        everyRun(WholeRunsTest::withThirtyEvents, calls, 4);
    }

    private static Run withThirtyEvents() {
        Run run = new Run(2, 3);
        for (int i = 0; i < 30; i++) {
            run.addEvent(4 + i % 2, 10 + 2 * (i / 2), i);
        }
        return run;
    }

    private static void everyRun(Supplier<Run> begin, List<Consumer<Run>> calls, int length) {
        int count = 1;
        for (int made = 0; made <= length; made++) {
            for (int number = 0; number < count && check.wrongSoFar() == 0; number++) {
                play(begin.get(), calls, number, made);
            }
            count *= calls.size();
        }
    }

    // The digits of the number, to the base of the count of calls, tell the run.
    private static void play(Run run, List<Consumer<Run>> calls, int number, int made) {
        int left = number;
        for (int i = 0; i < made; i++) {
            calls.get(left % calls.size()).accept(run);
            left /= calls.size();
        }
        // The moments before were the last ones of shorter runs.
        check.sentence("Standing guarantee");
        guarantees.hold("", run.x);
        run.finish();
        if (check.wrongSoFar() != 0) {
            System.out.println("  in the run " + run.told);
        }
    }

    /** A run with all that its consumer has seen. */
    private static final class Run {
        private final EventWindowsX x;
        private final List<int[]> admitted = new ArrayList<>();
        private final Map<List<Integer>, int[]> net = new HashMap<>();
        private final List<String> told = new ArrayList<>();
        private int read = 0;

        Run(int gap, int lateness) {
            x = new EventWindowsX(gap, lateness);
            told.add("new EventWindowsX(" + gap + ", " + lateness + ")");
        }

        void addEvent(int key, int time, int value) {
            told.add("addEvent(" + key + ", " + time + ", " + value + ")");
            int answer = x.addEvent(key, time, value);
            if (answer >= 0) {
                admitted.add(new int[] {key, time, value});
            }
            readRecords(answer);
        }

        void advance(int step) {
            int w = x.watermark() + step;
            told.add("advance(" + w + ")");
            readRecords(x.advance(w));
        }

        void early() {
            told.add("early()");
            readRecords(x.early());
        }

        private void readRecords(int answer) {
            check.sentence("The answer is the number of records this call emitted");
            int count = x.recordCount();
            check.due("recordCount() after " + told.get(told.size() - 1), count, read + Math.max(0, answer));
            check.isTrue("one call emits no more records than events are stored, " + answer, answer <= EventWindowsX.CAPACITY);
            for (; read < count; read++) {
                int sign = x.recordField(read, EventWindowsX.F_KIND) == RETRACT ? -1 : 1;
                int[] sums = net.computeIfAbsent(List.of(x.recordField(read, EventWindowsX.F_KEY),
                        x.recordField(read, EventWindowsX.F_START), x.recordField(read, EventWindowsX.F_END)),
                        k -> new int[2]);
                sums[0] += sign;
                sums[1] += sign * x.recordField(read, EventWindowsX.F_VALUE);
            }
        }

        // "W >= T + gap() + lateness() for every event time T in A"
        void finish() {
            int last = 0;
            for (int[] event : admitted) {
                last = Math.max(last, event[1] + x.gap() + x.lateness());
            }
            if (last > x.watermark()) {
                advance(last - x.watermark());
            }
            check.sentence("Consequence for consumers");
            check.due("storedEvents()", x.storedEvents(), 0);
            check.due("sessionCount()", x.sessionCount(), 0);
            check.due("paneCount()", x.paneCount(), 0);
            takeOffSessions();
            for (Map.Entry<List<Integer>, int[]> e : net.entrySet()) {
                check.due("count of " + e.getKey() + " beyond its session", e.getValue()[0], 0);
                check.due("value of " + e.getKey() + " beyond its session", e.getValue()[1], 0);
            }
        }

        // "grouped all at once by the same linking rule": by key and time, a new
        // session wherever the step from the event before is not below the gap.
        private void takeOffSessions() {
            int[][] events = admitted.toArray(new int[0][]);
            Arrays.sort(events, (a, b) -> a[0] != b[0] ? a[0] - b[0] : a[1] - b[1]);
            int first = 0;
            int sum = 0;
            for (int i = 0; i < events.length; i++) {
                sum += events[i][2];
                boolean isLast = i + 1 == events.length || events[i + 1][0] != events[i][0]
                        || events[i + 1][1] - events[i][1] >= x.gap();
                if (isLast) {
                    int[] sums = net.computeIfAbsent(List.of(events[i][0], events[first][1], events[i][1] + x.gap()),
                            k -> new int[2]);
                    sums[0]--;
                    sums[1] -= sum;
                    first = i + 1;
                    sum = 0;
                }
            }
        }
    }
}
