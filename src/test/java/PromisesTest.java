/** For every promise: ordinary inputs, the edges that the document names, and wrong inputs. */
public final class PromisesTest {
    private static final int BAD = EventWindowsX.BAD;
    private static final int DROPPED = EventWindowsX.DROPPED;
    private static final int FULL = EventWindowsX.FULL;
    private static final int EARLY = EventWindowsX.EARLY;
    private static final int ONTIME = EventWindowsX.ONTIME;
    private static final int LATE = EventWindowsX.LATE;
    private static final int RETRACT = EventWindowsX.RETRACT;
    private static final int MIN = Integer.MIN_VALUE;
    private static final int MAX = Integer.MAX_VALUE;

    private static final Check check = new Check();

    public static void main(String[] args) {
        promise1StartsEmpty();
        promises1To3Clamp();
        promise4RefusesBadArguments();
        promise4OrderOfRefusals();
        promise4Drops();
        promise4Full();
        promise4Links();
        promise4KeepsKeysApart();
        promise4Duplicates();
        promise4LateFiring();
        promise4LateMergeRetractsAll();
        promise4LateInSync();
        promise4OpenSessionStaysSilent();
        promise4ReopensAFiredSession();
        promise5Refuses();
        promise5FiresAtTheEnd();
        promise5FiresInSessionOrder();
        promise5RetractsMergedPanes();
        promise5Expires();
        promise5KeepsPanesOfOpenSessions();
        promise5FiresAndExpiresAtOnce();
        promise6Early();
        promise6LeavesFiredSessions();
        promise7Watermark();
        promise8StoredEvents();
        promise9DroppedCount();
        promise10Records();
        promise10OnlyTheNewestRecords();
        promise11Sessions();
        promise12Panes();
        promise12ThirtyTwoPanes();
        valuesOfMinusOne();
        objectsAreApart();
        check.end();
    }

    private static void promise1StartsEmpty() {
        EventWindowsX x = new EventWindowsX(10, 5);
        check.counts(x, 0, 0, 0, 0, 0);
        check.due("watermark()", x.watermark(), 0);
        check.due("recordField(0, F_KIND)", x.recordField(0, EventWindowsX.F_KIND), -1);
        check.due("sessionField(0, F_KEY)", x.sessionField(0, EventWindowsX.F_KEY), -1);
        check.due("paneField(0, F_KEY)", x.paneField(0, EventWindowsX.F_KEY), -1);
    }

    private static void promises1To3Clamp() {
        clamped(10, 5, 10, 5);
        clamped(MIN, MIN, 1, 0);
        clamped(-1, -1, 1, 0);
        clamped(0, 0, 1, 0);
        clamped(1, 1, 1, 1);
        clamped(2, 2, 2, 2);
        clamped(999, 999, 999, 999);
        clamped(1000, 1000, 1000, 1000);
        clamped(1001, 1001, 1000, 1000);
        clamped(MAX, MAX, 1000, 1000);
        clamped(MAX, MIN, 1000, 0);
        clamped(MIN, MAX, 1, 1000);
    }

    private static void clamped(int gap, int lateness, int wantGap, int wantLateness) {
        EventWindowsX x = new EventWindowsX(gap, lateness);
        check.due("gap() of " + gap, x.gap(), wantGap);
        check.due("lateness() of " + lateness, x.lateness(), wantLateness);
        x.addEvent(0, 5, 1);
        x.early();
        x.advance(3000);
        x.addEvent(0, 5, 1);
        check.due("gap() later", x.gap(), wantGap);
        check.due("lateness() later", x.lateness(), wantLateness);
        check.due("droppedCount()", x.droppedCount(), 1);
    }

    private static void promise4RefusesBadArguments() {
        EventWindowsX x = new EventWindowsX(10, 0);
        int[][] wrong = {
            {-1, 5, 1}, {8, 5, 1}, {MIN, 5, 1}, {MAX, 5, 1},
            {0, -1, 1}, {0, 1000001, 1}, {0, MIN, 1}, {0, MAX, 1},
            {0, 5, 1001}, {0, 5, -1001}, {0, 5, MIN}, {0, 5, MAX},
            {MAX, MAX, MAX}, {MIN, MIN, MIN},
        };
        for (int[] w : wrong) {
            check.due("addEvent(" + w[0] + ", " + w[1] + ", " + w[2] + ")", x.addEvent(w[0], w[1], w[2]), BAD);
        }
        check.counts(x, 0, 0, 0, 0, 0);
        check.due("addEvent(0, 0, -1000)", x.addEvent(0, 0, -1000), 0);
        check.due("addEvent(7, 1000000, 1000)", x.addEvent(7, 1000000, 1000), 0);
        check.counts(x, 2, 2, 0, 0, 0);
        check.session(x, 0, 0, 0, 10, -1000, 1);
        check.session(x, 1, 7, 1000000, 1000010, 1000, 1);
    }

    private static void promise4OrderOfRefusals() {
        EventWindowsX x = full(100);
        check.due("advance(50)", x.advance(50), 0);
        check.due("bad key before dropped", x.addEvent(8, 5, 1), BAD);
        check.due("bad time before dropped", x.addEvent(0, -1, 1), BAD);
        check.due("bad value before dropped", x.addEvent(0, 5, 1001), BAD);
        check.due("bad key before full", x.addEvent(-1, 100, 1), BAD);
        check.due("bad time before full", x.addEvent(0, 1000001, 1), BAD);
        check.due("bad value before full", x.addEvent(0, 100, -1001), BAD);
        check.due("droppedCount()", x.droppedCount(), 0);
        check.due("dropped before full", x.addEvent(0, 49, 1), DROPPED);
        check.due("full", x.addEvent(0, 50, 1), FULL);
        check.counts(x, 32, 1, 0, 0, 1);
    }

    private static EventWindowsX full(int time) {
        EventWindowsX x = new EventWindowsX(10, 0);
        for (int i = 0; i < EventWindowsX.CAPACITY; i++) {
            check.due("addEvent(0, " + time + ", 1)", x.addEvent(0, time, 1), 0);
        }
        return x;
    }

    private static void promise4Drops() {
        EventWindowsX x = new EventWindowsX(10, 5);
        x.advance(100);
        check.due("addEvent(0, 94, 1)", x.addEvent(0, 94, 1), DROPPED);
        check.counts(x, 0, 0, 0, 0, 1);
        check.due("addEvent(0, 95, 1)", x.addEvent(0, 95, 1), 0);
        check.counts(x, 1, 1, 0, 0, 1);
        check.due("addEvent(0, 0, 1)", x.addEvent(0, 0, 1), DROPPED);
        check.counts(x, 1, 1, 0, 0, 2);
        check.due("watermark()", x.watermark(), 100);

        EventWindowsX strict = new EventWindowsX(10, 0);
        strict.advance(100);
        check.due("addEvent(0, 99, 1) without lateness", strict.addEvent(0, 99, 1), DROPPED);
        check.due("addEvent(0, 100, 1) without lateness", strict.addEvent(0, 100, 1), 0);
        check.counts(strict, 1, 1, 0, 0, 1);
    }

    private static void promise4Full() {
        EventWindowsX x = full(100);
        check.due("addEvent of another key", x.addEvent(3, 700, 1), FULL);
        check.due("addEvent of the same", x.addEvent(0, 100, 1), FULL);
        check.counts(x, 32, 1, 0, 0, 0);
        check.session(x, 0, 0, 100, 110, 32, 32);
        check.due("advance(110)", x.advance(110), 1);
        check.due("addEvent after expiry", x.addEvent(3, 700, 1), 0);
        check.counts(x, 1, 1, 0, 1, 0);
    }

    private static void promise4Links() {
        EventWindowsX x = new EventWindowsX(10, 0);
        x.addEvent(0, 100, 1);
        x.addEvent(0, 110, 2);
        check.due("sessionCount() with times gap apart", x.sessionCount(), 2);
        check.session(x, 0, 0, 100, 110, 1, 1);
        check.session(x, 1, 0, 110, 120, 2, 1);
        x.addEvent(0, 119, 4);
        check.due("sessionCount() with times gap - 1 apart", x.sessionCount(), 2);
        check.session(x, 1, 0, 110, 129, 6, 2);
        x.addEvent(0, 91, 8);
        check.session(x, 0, 0, 91, 110, 9, 2);
        x.addEvent(0, 105, 16);
        check.due("sessionCount() after the bridge", x.sessionCount(), 1);
        check.session(x, 0, 0, 91, 129, 31, 5);

        EventWindowsX narrow = new EventWindowsX(1, 0);
        narrow.addEvent(0, 7, 1);
        narrow.addEvent(0, 8, 1);
        narrow.addEvent(0, 7, 1);
        check.due("sessionCount() with gap 1", narrow.sessionCount(), 2);
        check.session(narrow, 0, 0, 7, 8, 2, 2);
        check.session(narrow, 1, 0, 8, 9, 1, 1);
    }

    private static void promise4KeepsKeysApart() {
        EventWindowsX x = new EventWindowsX(10, 100);
        x.addEvent(1, 100, 1);
        x.addEvent(2, 101, 2);
        x.addEvent(0, 99, 4);
        check.due("sessionCount()", x.sessionCount(), 3);
        check.session(x, 0, 0, 99, 109, 4, 1);
        check.session(x, 1, 1, 100, 110, 1, 1);
        check.session(x, 2, 2, 101, 111, 2, 1);
        check.due("advance(120)", x.advance(120), 3);
        check.due("addEvent(1, 100, 8)", x.addEvent(1, 100, 8), 2);
        check.record(x, 3, RETRACT, 1, 100, 110, 1);
        check.record(x, 4, LATE, 1, 100, 110, 9);
        check.pane(x, 0, 0, 99, 109, 4);
        check.pane(x, 1, 1, 100, 110, 9);
        check.pane(x, 2, 2, 101, 111, 2);
    }

    private static void promise4Duplicates() {
        EventWindowsX x = new EventWindowsX(10, 100);
        x.addEvent(4, 100, -3);
        x.addEvent(4, 100, -3);
        x.addEvent(4, 100, -3);
        check.counts(x, 3, 1, 0, 0, 0);
        check.session(x, 0, 4, 100, 110, -9, 3);
        x.advance(150);
        check.due("late copy", x.addEvent(4, 100, -3), 2);
        check.record(x, 2, LATE, 4, 100, 110, -12);
    }

    private static void promise4LateFiring() {
        EventWindowsX x = new EventWindowsX(10, 50);
        x.advance(100);
        check.due("end above W", x.addEvent(0, 91, 1), 0);
        check.due("end at W", x.addEvent(1, 90, 2), 1);
        check.record(x, 0, LATE, 1, 90, 100, 2);
        check.due("end below W", x.addEvent(2, 60, 3), 1);
        check.record(x, 1, LATE, 2, 60, 70, 3);
        check.counts(x, 3, 3, 2, 2, 0);
        check.pane(x, 0, 1, 90, 100, 2);
        check.pane(x, 1, 2, 60, 70, 3);
        check.due("a start before", x.addEvent(2, 55, 4), 2);
        check.record(x, 2, RETRACT, 2, 60, 70, 3);
        check.record(x, 3, LATE, 2, 55, 70, 7);
        check.due("an end after", x.addEvent(2, 69, 5), 2);
        check.record(x, 4, RETRACT, 2, 55, 70, 7);
        check.record(x, 5, LATE, 2, 55, 79, 12);
        check.due("watermark()", x.watermark(), 100);
    }

    private static void promise4LateMergeRetractsAll() {
        EventWindowsX x = new EventWindowsX(10, 200);
        x.advance(200);
        check.due("addEvent(5, 130, 4)", x.addEvent(5, 130, 4), 1);
        check.due("addEvent(5, 100, 1)", x.addEvent(5, 100, 1), 1);
        check.due("addEvent(5, 115, 2)", x.addEvent(5, 115, 2), 1);
        check.due("addEvent(5, 160, 64)", x.addEvent(5, 160, 64), 1);
        check.due("addEvent(5, 108, 8)", x.addEvent(5, 108, 8), 3);
        check.record(x, 4, RETRACT, 5, 100, 110, 1);
        check.record(x, 5, RETRACT, 5, 115, 125, 2);
        check.record(x, 6, LATE, 5, 100, 125, 11);
        check.due("addEvent(5, 123, 16)", x.addEvent(5, 123, 16), 3);
        check.record(x, 7, RETRACT, 5, 100, 125, 11);
        check.record(x, 8, RETRACT, 5, 130, 140, 4);
        check.record(x, 9, LATE, 5, 100, 140, 31);
        check.counts(x, 6, 2, 2, 10, 0);
        check.pane(x, 0, 5, 100, 140, 31);
        check.pane(x, 1, 5, 160, 170, 64);
    }

    private static void promise4LateInSync() {
        EventWindowsX x = new EventWindowsX(10, 100);
        x.addEvent(0, 100, 5);
        x.advance(110);
        check.due("late zero inside", x.addEvent(0, 100, 0), 0);
        check.counts(x, 2, 1, 1, 1, 0);
        check.due("late zero that moves the start", x.addEvent(0, 91, 0), 2);
        check.record(x, 1, RETRACT, 0, 100, 110, 5);
        check.record(x, 2, LATE, 0, 91, 110, 5);
    }

    private static void promise4OpenSessionStaysSilent() {
        EventWindowsX x = new EventWindowsX(10, 100);
        x.addEvent(0, 100, 5);
        x.early();
        check.due("addEvent into an open session", x.addEvent(0, 104, 2), 0);
        check.counts(x, 2, 1, 1, 1, 0);
        check.pane(x, 0, 0, 100, 110, 5);
        check.session(x, 0, 0, 100, 114, 7, 2);
    }

    private static void promise4ReopensAFiredSession() {
        EventWindowsX x = new EventWindowsX(10, 100);
        x.addEvent(0, 100, 5);
        check.due("advance(110)", x.advance(110), 1);
        check.due("addEvent that moves the end above W", x.addEvent(0, 105, 2), 0);
        check.counts(x, 2, 1, 1, 1, 0);
        check.pane(x, 0, 0, 100, 110, 5);
        check.due("advance(114)", x.advance(114), 0);
        check.due("advance(115)", x.advance(115), 2);
        check.record(x, 1, RETRACT, 0, 100, 110, 5);
        check.record(x, 2, ONTIME, 0, 100, 115, 7);
    }

    private static void promise5Refuses() {
        EventWindowsX x = new EventWindowsX(10, 0);
        x.addEvent(0, 100, 1);
        for (int w : new int[] {0, -1, MIN, 2100001, MAX}) {
            check.due("advance(" + w + ")", x.advance(w), BAD);
        }
        check.due("watermark()", x.watermark(), 0);
        check.counts(x, 1, 1, 0, 0, 0);
        check.due("advance(1)", x.advance(1), 0);
        check.due("advance(1) again", x.advance(1), BAD);
        check.due("advance(2100001)", x.advance(2100001), BAD);
        check.counts(x, 1, 1, 0, 0, 0);
        check.due("advance(2100000)", x.advance(2100000), 1);
        check.due("advance(2100000) again", x.advance(2100000), BAD);
        check.due("advance(2099999)", x.advance(2099999), BAD);
        check.due("watermark()", x.watermark(), 2100000);
        check.counts(x, 0, 0, 0, 1, 0);
    }

    private static void promise5FiresAtTheEnd() {
        EventWindowsX x = new EventWindowsX(10, 50);
        x.addEvent(0, 100, 3);
        x.addEvent(0, 104, 4);
        check.due("advance(113)", x.advance(113), 0);
        check.counts(x, 2, 1, 0, 0, 0);
        check.due("advance(114)", x.advance(114), 1);
        check.record(x, 0, ONTIME, 0, 100, 114, 7);
        check.due("advance(115)", x.advance(115), 0);
        check.counts(x, 2, 1, 1, 1, 0);
        check.pane(x, 0, 0, 100, 114, 7);
    }

    private static void promise5FiresInSessionOrder() {
        EventWindowsX x = new EventWindowsX(10, 1000);
        x.addEvent(7, 0, 1);
        x.addEvent(2, 80, 2);
        x.addEvent(2, 20, 3);
        x.addEvent(0, 90, 4);
        x.addEvent(2, 300, 5);
        check.due("advance(100)", x.advance(100), 4);
        check.record(x, 0, ONTIME, 0, 90, 100, 4);
        check.record(x, 1, ONTIME, 2, 20, 30, 3);
        check.record(x, 2, ONTIME, 2, 80, 90, 2);
        check.record(x, 3, ONTIME, 7, 0, 10, 1);
        check.counts(x, 5, 5, 4, 4, 0);
    }

    private static void promise5RetractsMergedPanes() {
        EventWindowsX x = new EventWindowsX(10, 0);
        x.addEvent(3, 100, 1);
        x.addEvent(3, 116, 2);
        x.addEvent(4, 100, 7);
        check.due("early()", x.early(), 3);
        x.addEvent(3, 108, 4);
        check.due("advance(130)", x.advance(130), 3);
        check.record(x, 3, RETRACT, 3, 100, 110, 1);
        check.record(x, 4, RETRACT, 3, 116, 126, 2);
        check.record(x, 5, ONTIME, 3, 100, 126, 7);
        check.counts(x, 0, 0, 0, 6, 0);
    }

    private static void promise5Expires() {
        EventWindowsX x = new EventWindowsX(10, 50);
        x.addEvent(0, 100, 3);
        x.addEvent(0, 111, 4);
        x.addEvent(1, 500, 5);
        check.due("advance(159)", x.advance(159), 2);
        check.counts(x, 3, 3, 2, 2, 0);
        check.due("advance(160)", x.advance(160), 0);
        check.counts(x, 2, 2, 1, 2, 0);
        check.session(x, 0, 0, 111, 121, 4, 1);
        check.pane(x, 0, 0, 111, 121, 4);
        check.due("advance(170)", x.advance(170), 0);
        check.counts(x, 2, 2, 1, 2, 0);
        check.due("advance(171)", x.advance(171), 0);
        check.counts(x, 1, 1, 0, 2, 0);
        check.session(x, 0, 1, 500, 510, 5, 1);
    }

    private static void promise5KeepsPanesOfOpenSessions() {
        EventWindowsX x = new EventWindowsX(10, 0);
        x.addEvent(0, 100, 3);
        x.early();
        x.addEvent(0, 105, 4);
        check.due("advance(112)", x.advance(112), 0);
        check.counts(x, 2, 1, 1, 1, 0);
        check.pane(x, 0, 0, 100, 110, 3);
        check.due("early()", x.early(), 2);
        check.record(x, 1, RETRACT, 0, 100, 110, 3);
        check.record(x, 2, EARLY, 0, 100, 115, 7);
        check.due("advance(115)", x.advance(115), 0);
        check.counts(x, 0, 0, 0, 3, 0);
    }

    private static void promise5FiresAndExpiresAtOnce() {
        EventWindowsX x = new EventWindowsX(10, 20);
        x.addEvent(0, 100, 3);
        x.addEvent(1, 115, 4);
        x.addEvent(2, 130, 5);
        check.due("advance(130)", x.advance(130), 2);
        check.record(x, 0, ONTIME, 0, 100, 110, 3);
        check.record(x, 1, ONTIME, 1, 115, 125, 4);
        check.counts(x, 2, 2, 1, 2, 0);
        check.pane(x, 0, 1, 115, 125, 4);
        check.session(x, 1, 2, 130, 140, 5, 1);
    }

    private static void promise6Early() {
        EventWindowsX x = new EventWindowsX(10, 0);
        check.due("early() without sessions", x.early(), 0);
        x.addEvent(6, 100, 1);
        x.addEvent(1, 100, 2);
        x.addEvent(1, 50, 3);
        check.due("early()", x.early(), 3);
        check.record(x, 0, EARLY, 1, 50, 60, 3);
        check.record(x, 1, EARLY, 1, 100, 110, 2);
        check.record(x, 2, EARLY, 6, 100, 110, 1);
        check.due("early() in sync", x.early(), 0);
        x.addEvent(1, 100, 0);
        check.due("early() in sync after a zero", x.early(), 0);
        x.addEvent(1, 59, 0);
        check.due("early() after a new end", x.early(), 2);
        check.record(x, 3, RETRACT, 1, 50, 60, 3);
        check.record(x, 4, EARLY, 1, 50, 69, 3);
        x.addEvent(6, 100, 4);
        check.due("early() after a new sum", x.early(), 2);
        check.record(x, 5, RETRACT, 6, 100, 110, 1);
        check.record(x, 6, EARLY, 6, 100, 110, 5);
        check.counts(x, 6, 3, 3, 7, 0);
        check.due("watermark()", x.watermark(), 0);
        check.due("advance(200) in sync", x.advance(200), 0);
        check.counts(x, 0, 0, 0, 7, 0);
    }

    private static void promise6LeavesFiredSessions() {
        EventWindowsX x = new EventWindowsX(10, 100);
        x.addEvent(0, 90, 1);
        x.addEvent(1, 91, 2);
        check.due("advance(100)", x.advance(100), 1);
        check.due("early()", x.early(), 1);
        check.record(x, 1, EARLY, 1, 91, 101, 2);
        check.counts(x, 2, 2, 2, 2, 0);
    }

    private static void promise7Watermark() {
        EventWindowsX x = new EventWindowsX(10, 0);
        check.due("watermark()", x.watermark(), 0);
        x.advance(7);
        check.due("watermark()", x.watermark(), 7);
        x.advance(6);
        x.addEvent(0, 500, 1);
        x.early();
        check.due("watermark()", x.watermark(), 7);
        x.advance(2100000);
        check.due("watermark()", x.watermark(), 2100000);
    }

    private static void promise8StoredEvents() {
        EventWindowsX x = new EventWindowsX(10, 0);
        for (int i = 0; i < 32; i++) {
            check.due("storedEvents()", x.storedEvents(), i);
            x.addEvent(i % 8, 100 * i, 1);
        }
        check.due("storedEvents()", x.storedEvents(), 32);
        x.addEvent(0, 0, 1);
        check.due("storedEvents()", x.storedEvents(), 32);
        x.advance(1510);
        check.due("storedEvents()", x.storedEvents(), 16);
    }

    private static void promise9DroppedCount() {
        EventWindowsX x = new EventWindowsX(10, 0);
        x.advance(100);
        for (int i = 0; i < 70; i++) {
            check.due("droppedCount()", x.droppedCount(), i);
            check.due("addEvent(0, 50, 1)", x.addEvent(0, 50, 1), DROPPED);
        }
        x.addEvent(9, 50, 1);
        x.advance(50);
        x.addEvent(0, 200, 1);
        x.advance(300);
        check.due("droppedCount()", x.droppedCount(), 70);
    }

    private static void promise10Records() {
        EventWindowsX x = new EventWindowsX(10, 0);
        x.addEvent(3, 100, 8);
        x.early();
        check.record(x, 0, EARLY, 3, 100, 110, 8);
        for (int field : new int[] {EventWindowsX.F_EVENTS, 6, -1, MIN, MAX}) {
            check.due("recordField(0, " + field + ")", x.recordField(0, field), -1);
        }
        for (int seq : new int[] {-1, 1, 64, -64, MIN, MAX}) {
            check.record(x, seq, -1, -1, -1, -1, -1);
        }
    }

    private static void promise10OnlyTheNewestRecords() {
        EventWindowsX x = new EventWindowsX(1, 0);
        for (int n = 1; n <= 200; n++) {
            x.addEvent(n % 8, 10 * n, n);
            check.due("advance(" + (10 * n + 1) + ")", x.advance(10 * n + 1), 1);
            check.due("recordCount()", x.recordCount(), n);
            for (int seq = -2; seq < n + 66; seq++) {
                if (seq >= 0 && seq < n && seq >= n - 64) {
                    int m = seq + 1;
                    check.record(x, seq, ONTIME, m % 8, 10 * m, 10 * m + 1, m);
                } else {
                    check.record(x, seq, -1, -1, -1, -1, -1);
                }
            }
        }
    }

    private static void promise11Sessions() {
        EventWindowsX x = new EventWindowsX(10, 0);
        x.addEvent(5, 300, 1);
        x.addEvent(5, 100, 2);
        x.addEvent(0, 900, 3);
        x.addEvent(5, 105, -4);
        x.addEvent(7, 0, 5);
        check.due("sessionCount()", x.sessionCount(), 4);
        check.session(x, 0, 0, 900, 910, 3, 1);
        check.session(x, 1, 5, 100, 115, -2, 2);
        check.session(x, 2, 5, 300, 310, 1, 1);
        check.session(x, 3, 7, 0, 10, 5, 1);
        for (int i : new int[] {-1, 4, 5, 32, 33, MIN, MAX}) {
            check.session(x, i, -1, -1, -1, -1, -1);
        }
        for (int field : new int[] {EventWindowsX.F_KIND, 6, -1, MIN, MAX}) {
            check.due("sessionField(0, " + field + ")", x.sessionField(0, field), -1);
        }
        check.counts(x, 5, 4, 0, 0, 0);
    }

    private static void promise12Panes() {
        EventWindowsX x = new EventWindowsX(10, 100);
        x.addEvent(5, 300, 1);
        x.addEvent(6, 10, 2);
        x.advance(20);
        x.addEvent(5, 100, 3);
        x.addEvent(0, 400, 4);
        x.early();
        check.due("paneCount()", x.paneCount(), 4);
        check.pane(x, 0, 0, 400, 410, 4);
        check.pane(x, 1, 5, 100, 110, 3);
        check.pane(x, 2, 5, 300, 310, 1);
        check.pane(x, 3, 6, 10, 20, 2);
        for (int i : new int[] {-1, 4, 5, 32, 33, MIN, MAX}) {
            check.pane(x, i, -1, -1, -1, -1);
        }
        for (int field : new int[] {EventWindowsX.F_KIND, EventWindowsX.F_EVENTS, 6, -1, MIN, MAX}) {
            check.due("paneField(0, " + field + ")", x.paneField(0, field), -1);
        }
        check.counts(x, 4, 4, 4, 4, 0);
    }

    private static void promise12ThirtyTwoPanes() {
        EventWindowsX x = new EventWindowsX(1, 1000);
        for (int i = 31; i >= 0; i--) {
            x.addEvent(i / 4, i, i);
        }
        check.due("early()", x.early(), 32);
        check.counts(x, 32, 32, 32, 32, 0);
        for (int i = 0; i < 32; i++) {
            check.pane(x, i, i / 4, i, i + 1, i);
            check.session(x, i, i / 4, i, i + 1, i, 1);
        }
        check.due("advance(1031)", x.advance(1031), 0);
        check.counts(x, 1, 1, 1, 32, 0);
        check.pane(x, 0, 7, 31, 32, 31);
    }

    private static void valuesOfMinusOne() {
        EventWindowsX x = new EventWindowsX(10, 100);
        x.addEvent(0, 0, -1);
        check.session(x, 0, 0, 0, 10, -1, 1);
        x.early();
        check.record(x, 0, EARLY, 0, 0, 10, -1);
        check.pane(x, 0, 0, 0, 10, -1);
    }

    private static void objectsAreApart() {
        EventWindowsX one = new EventWindowsX(10, 100);
        EventWindowsX two = new EventWindowsX(20, 200);
        one.addEvent(0, 5, 1);
        one.early();
        one.advance(500);
        one.addEvent(0, 5, 1);
        check.counts(two, 0, 0, 0, 0, 0);
        check.due("watermark() of the other", two.watermark(), 0);
        check.due("gap() of the first", one.gap(), 10);
    }
}
