import java.lang.reflect.Field;

/**
 * The counts of records and of dropped events are ints and wrap around. Calls
 * alone would need minutes to get there, so the counts are set near the edge.
 */
public final class WrapAroundTest {
    private static final Check check = new Check();

    public static void main(String[] args) throws ReflectiveOperationException {
        recordsPastTheGreatestInt();
        recordsBackToZero();
        droppedPastTheGreatestInt();
        check.end();
    }

    private static void set(EventWindowsX x, String name, int number) throws ReflectiveOperationException {
        Field field = EventWindowsX.class.getDeclaredField(name);
        field.setAccessible(true);
        field.setInt(x, number);
    }

    private static EventWindowsX withTenSessions() {
        EventWindowsX x = new EventWindowsX(10, 0);
        for (int i = 0; i < 10; i++) {
            x.addEvent(0, 100 * i, i);
        }
        return x;
    }

    private static void recordsPastTheGreatestInt() throws ReflectiveOperationException {
        EventWindowsX x = withTenSessions();
        set(x, "emitted", Integer.MAX_VALUE - 5);
        x.addEvent(1, 5, 77);
        check.due("early()", x.early(), 11);
        check.due("recordCount()", x.recordCount(), Integer.MIN_VALUE + 5);
        for (int seq : new int[] {Integer.MAX_VALUE, Integer.MAX_VALUE - 5, Integer.MIN_VALUE, Integer.MIN_VALUE + 4, 0, -1}) {
            check.record(x, seq, -1, -1, -1, -1, -1);
        }
        check.due("paneCount()", x.paneCount(), 11);
        check.pane(x, 10, 1, 5, 15, 77);

        EventWindowsX before = withTenSessions();
        set(before, "emitted", Integer.MAX_VALUE - 10);
        check.due("early()", before.early(), 10);
        check.due("recordCount()", before.recordCount(), Integer.MAX_VALUE);
        for (int i = 0; i < 10; i++) {
            check.record(before, Integer.MAX_VALUE - 10 + i, EventWindowsX.EARLY, 0, 100 * i, 100 * i + 10, i);
        }
    }

    private static void recordsBackToZero() throws ReflectiveOperationException {
        EventWindowsX x = withTenSessions();
        set(x, "emitted", -4);
        check.due("early()", x.early(), 10);
        check.due("recordCount()", x.recordCount(), 6);
        for (int i = 4; i < 10; i++) {
            check.record(x, i - 4, EventWindowsX.EARLY, 0, 100 * i, 100 * i + 10, i);
        }
        check.record(x, -1, -1, -1, -1, -1, -1);
    }

    private static void droppedPastTheGreatestInt() throws ReflectiveOperationException {
        EventWindowsX x = new EventWindowsX(10, 0);
        x.advance(50);
        set(x, "dropped", Integer.MAX_VALUE);
        check.due("addEvent(0, 1, 1)", x.addEvent(0, 1, 1), EventWindowsX.DROPPED);
        check.due("droppedCount()", x.droppedCount(), Integer.MIN_VALUE);
    }
}
