import java.lang.reflect.Field;

/**
 * "the counts of records and of dropped events are ints and would wrap". Drops
 * get there by calls alone. Records can't: W moves at most 2100000 times and at
 * most 32 events are stored between two moves, far too few records for an int
 * to wrap, so that count is set near the edge.
 */
public final class WrapAroundTest {
    private static final int EARLY = EventWindowsX.EARLY;
    private static final int MIN = Integer.MIN_VALUE;
    private static final int MAX = Integer.MAX_VALUE;

    private static final Check check = new Check();

    public static void main(String[] args) throws ReflectiveOperationException {
        dropsWrapByCallsAlone();
        dropsGoBackToZero();
        recordsUpToTheGreatestCount();
        recordsPastTheGreatestCount();
        recordsWhileTheCountIsNegative();
        recordsBackToZero();
        answersCountAcrossTheWrap();
        check.end();
    }

    private static void set(EventWindowsX x, String name, int number) throws ReflectiveOperationException {
        Field field = EventWindowsX.class.getDeclaredField(name);
        field.setAccessible(true);
        field.setInt(x, number);
    }

    private static void dropsWrapByCallsAlone() {
        check.sentence("the count of dropped events is an int and would wrap");
        EventWindowsX x = new EventWindowsX(10, 0);
        x.addEvent(3, 60, 5);
        x.advance(50);
        x.early();
        var before = Answers.of(x);
        int others = 0;
        for (int i = 0; i < MAX; i++) {
            if (x.addEvent(0, 1, 1) != EventWindowsX.DROPPED) {
                others++;
            }
        }
        check.due("calls that did not answer DROPPED", others, 0);
        check.due("droppedCount() at the greatest int", x.droppedCount(), MAX);
        check.due("addEvent(0, 1, 1)", x.addEvent(0, 1, 1), EventWindowsX.DROPPED);
        check.due("droppedCount() past the greatest int", x.droppedCount(), MIN);
        check.due("addEvent(0, 1, 1)", x.addEvent(0, 1, 1), EventWindowsX.DROPPED);
        check.due("droppedCount() after that", x.droppedCount(), MIN + 1);
        before.put("droppedCount()", MIN + 1);
        check.same("all but the dropped count", before, Answers.of(x));
        check.due("advance(70)", x.advance(70), 0);
        check.counts(x, 0, 0, 0, 1, MIN + 1);
    }

    private static void dropsGoBackToZero() throws ReflectiveOperationException {
        check.sentence("the count of dropped events is an int and would wrap: back to 0");
        EventWindowsX x = new EventWindowsX(10, 0);
        x.advance(50);
        set(x, "dropped", -1);
        check.due("addEvent(0, 1, 1)", x.addEvent(0, 1, 1), EventWindowsX.DROPPED);
        check.due("droppedCount()", x.droppedCount(), 0);
        check.due("addEvent(0, 1, 1)", x.addEvent(0, 1, 1), EventWindowsX.DROPPED);
        check.due("droppedCount()", x.droppedCount(), 1);
    }

    // Sessions 0 to 9 of key 0, one event each, told apart by start and value.
    private static EventWindowsX withTenSessions(int count) throws ReflectiveOperationException {
        EventWindowsX x = new EventWindowsX(10, 1000);
        for (int i = 0; i < 10; i++) {
            x.addEvent(0, 100 * i, i);
        }
        set(x, "emitted", count);
        check.due("early()", x.early(), 10);
        return x;
    }

    private static void tenth(EventWindowsX x, int seq, int i) {
        check.record(x, seq, EARLY, 0, 100 * i, 100 * i + 10, i);
    }

    private static void unreadable(EventWindowsX x, int... seqs) {
        for (int seq : seqs) {
            check.record(x, seq, -1, -1, -1, -1, -1);
        }
    }

    private static void recordsUpToTheGreatestCount() throws ReflectiveOperationException {
        check.sentence("seq is readable if and only if 0 <= seq < recordCount() and seq >= recordCount() - LOG: the greatest count");
        EventWindowsX x = withTenSessions(MAX - 10);
        check.due("recordCount()", x.recordCount(), MAX);
        for (int i = 0; i < 10; i++) {
            tenth(x, MAX - 10 + i, i);
        }
        unreadable(x, MAX, MAX - 65, MAX - 66, MIN, MIN + 63, -1, 0, 63);
    }

    private static void recordsPastTheGreatestCount() throws ReflectiveOperationException {
        check.sentence("0 <= seq < recordCount(): the count has just wrapped");
        for (int past = 1; past <= 10; past++) {
            EventWindowsX x = withTenSessions(MAX - 10 + past);
            check.due("recordCount()", x.recordCount(), MIN + past - 1);
            unreadable(x, MAX, MAX - 1, MAX - 9, MAX - 63, MAX - 64, MIN, MIN + 1, MIN + past - 2, MIN + past - 1, MIN + past);
            unreadable(x, -65, -64, -1, 0, 1, 63, 64);
            check.due("paneCount()", x.paneCount(), 10);
            check.pane(x, 9, 0, 900, 910, 9);
        }
    }

    private static void recordsWhileTheCountIsNegative() throws ReflectiveOperationException {
        check.sentence("0 <= seq < recordCount(): no seq can be read while the count is negative or 0");
        for (int count : new int[] {MIN, MIN + 64, MIN + 65, -1000000, -65, -64, -63, -1, 0}) {
            EventWindowsX x = withTenSessions(count - 10);
            check.due("recordCount()", x.recordCount(), count);
            for (int i = -70; i <= 70; i++) {
                unreadable(x, count + i, i);
            }
            unreadable(x, MIN, MAX);
        }
    }

    private static void recordsBackToZero() throws ReflectiveOperationException {
        check.sentence("0 <= seq < recordCount(): the count has gone past 0 again");
        for (int past = 1; past <= 10; past++) {
            EventWindowsX x = withTenSessions(past - 10);
            check.due("recordCount()", x.recordCount(), past);
            for (int seq = 0; seq < past; seq++) {
                tenth(x, seq, 10 - past + seq);
            }
            unreadable(x, -1, -2, -64, past, past + 1, 63, 64, MIN, MAX);
        }
    }

    private static void answersCountAcrossTheWrap() throws ReflectiveOperationException {
        check.sentence("The answer is the number of records this call emitted: across the wrap");
        for (int edge : new int[] {MAX, -1}) {
            for (int before = 9; before <= 17; before++) {
                EventWindowsX x = withTenSessions(edge - before);
                int count = edge - before + 10;
                x.addEvent(0, 109, 5);
                x.addEvent(0, 91, 6);
                check.due("recordCount()", x.recordCount(), count);
                check.due("advance(1000)", x.advance(1000), 2);
                check.due("recordCount()", x.recordCount(), count + 2);
                check.due("addEvent(0, 109, 7)", x.addEvent(0, 109, 7), 2);
                check.due("recordCount()", x.recordCount(), count + 4);
                check.due("addEvent(0, 200, 0)", x.addEvent(0, 200, 0), 0);
                check.due("recordCount()", x.recordCount(), count + 4);
                check.due("addEvent(0, 84, 7)", x.addEvent(0, 84, 7), 2);
                check.due("recordCount()", x.recordCount(), count + 6);
            }
        }
    }
}
