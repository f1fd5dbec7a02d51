import java.util.function.ToIntFunction;

/** "What it is" and "Terms": a test for each sentence that names a boundary. */
public final class TermsBoundaryTest {
    private static final int BAD = EventWindowsX.BAD;
    private static final int DROPPED = EventWindowsX.DROPPED;
    private static final int FULL = EventWindowsX.FULL;
    private static final int EARLY = EventWindowsX.EARLY;
    private static final int ONTIME = EventWindowsX.ONTIME;
    private static final int LATE = EventWindowsX.LATE;
    private static final int RETRACT = EventWindowsX.RETRACT;
    private static final int MIN = Integer.MIN_VALUE;
    private static final int MAX = Integer.MAX_VALUE;

    private static final Check check = new Check();
    private static final Twins twins = new Twins(check);
    private static final Guarantees guarantees = new Guarantees(check);

    public static void main(String[] args) {
        onTimeWhenReachedOrPassed();
        lateWhenTheEndIsAtOrBelowW();
        panesOfMergedSessions();
        tooOldIsDroppedAndCounted();
        nothingWrapsAtTheLimits();
        atMostCapacityEvents();
        linkedBelowTheGap();
        linkedTransitively();
        keysAreTreatedSeparately();
        attributesOfASession();
        coversStartToBeforeEnd();
        sessionOrder();
        watermarkOnlyGrows();
        recordsAreNumberedFromZero();
        panesAreEmptyAtFirst();
        everyPaneRecordAdds();
        everyRetractRemovesItsPane();
        panesBelongByTheirEdges();
        panesOfTheNarrowestGapBelongToOneSession();
        touchingPanesDoNotOverlap();
        atMostThirtyTwoPanes();
        paneOrder();
        inSyncNeedsAPane();
        inSyncNeedsTheStart();
        inSyncNeedsTheEnd();
        inSyncNeedsTheSum();
        inSyncNeedsOnePaneAlone();
        inSyncAgainAfterOppositeValues();
        firingInSyncDoesNothing();
        firingRetractsFirst();
        expiringEmitsNothing();
        standingGuarantee();
        badCallsChangeNothing();
        fullCallsChangeNothing();
        droppedCallsOnlyCount();
        consequenceAtTheLastMoment();
        consequenceWithoutEvents();
        consequenceLeavesOutRefusedEvents();
        check.end();
    }

    private static void onTimeWhenReachedOrPassed() {
        check.sentence("an on-time pane when the watermark reaches or passes a session's end (end <= W)");
        for (int w : new int[] {109, 110, 111}) {
            EventWindowsX x = new EventWindowsX(10, 100);
            x.addEvent(0, 100, 5);
            int due = w >= 110 ? 1 : 0;
            check.due("advance(" + w + ")", x.advance(w), due);
            check.counts(x, 1, 1, due, due, 0);
            if (due == 1) {
                check.record(x, 0, ONTIME, 0, 100, 110, 5);
            }
        }
    }

    private static void lateWhenTheEndIsAtOrBelowW() {
        check.sentence("a late pane when an admitted event ends up in a session whose end is <= W");
        for (int time : new int[] {89, 90, 91}) {
            EventWindowsX x = new EventWindowsX(10, 100);
            x.advance(100);
            int due = time <= 90 ? 1 : 0;
            check.due("addEvent(0, " + time + ", 5)", x.addEvent(0, time, 5), due);
            check.counts(x, 1, 1, due, due, 0);
            if (due == 1) {
                check.record(x, 0, LATE, 0, time, time + 10, 5);
            }
        }
    }

    private static void panesOfMergedSessions() {
        check.sentence("This includes panes of sessions that have since merged into it.");
        EventWindowsX x = new EventWindowsX(10, 100);
        for (int i = 15; i >= 0; i--) {
            x.addEvent(6, 10 * i, i);
        }
        check.due("early() of 16", x.early(), 16);
        for (int i = 0; i < 15; i++) {
            check.due("a bridge", x.addEvent(6, 10 * i + 5, 100), 0);
        }
        check.counts(x, 31, 1, 16, 16, 0);
        check.due("advance(160)", x.advance(160), 17);
        for (int i = 0; i < 16; i++) {
            check.record(x, 16 + i, RETRACT, 6, 10 * i, 10 * i + 10, i);
        }
        check.record(x, 32, ONTIME, 6, 0, 160, 1620);
        check.counts(x, 31, 1, 1, 33, 0);
        check.pane(x, 0, 6, 0, 160, 1620);
    }

    private static void tooOldIsDroppedAndCounted() {
        check.sentence("Events that are too old are dropped and counted.");
        EventWindowsX x = new EventWindowsX(10, 20);
        x.advance(100);
        check.due("addEvent(0, 79, 1)", x.addEvent(0, 79, 1), DROPPED);
        check.due("addEvent(0, 80, 1)", x.addEvent(0, 80, 1), 1);
        check.counts(x, 1, 1, 1, 1, 1);
    }

    private static void nothingWrapsAtTheLimits() {
        check.sentence("None of that arithmetic wraps around");
        EventWindowsX x = new EventWindowsX(MAX, MAX);
        check.due("addEvent(7, 1000000, 1000)", x.addEvent(7, 1000000, 1000), 0);
        check.session(x, 0, 7, 1000000, 1001000, 1000, 1);
        check.due("advance(1000999)", x.advance(1000999), 0);
        check.due("advance(1001000)", x.advance(1001000), 1);
        check.record(x, 0, ONTIME, 7, 1000000, 1001000, 1000);
        check.due("oldest that is admitted", x.addEvent(6, 1000000, -1000), 1);
        check.record(x, 1, LATE, 6, 1000000, 1001000, -1000);
        check.due("advance(1001999)", x.advance(1001999), 0);
        check.counts(x, 2, 2, 2, 2, 0);
        check.due("advance(1002000)", x.advance(1002000), 0);
        check.counts(x, 0, 0, 0, 2, 0);
        check.due("advance(2100000)", x.advance(2100000), 0);
        check.due("addEvent(7, 1000000, 1)", x.addEvent(7, 1000000, 1), DROPPED);
        check.due("addEvent(7, 0, 1)", x.addEvent(7, 0, 1), DROPPED);
        check.counts(x, 0, 0, 0, 2, 2);
    }

    private static void atMostCapacityEvents() {
        check.sentence("At most CAPACITY (32) events are stored at once.");
        EventWindowsX x = new EventWindowsX(10, 0);
        for (int i = 0; i < 40; i++) {
            check.due("addEvent number " + i, x.addEvent(i % 8, 100 * (i % 4), 1), i < 32 ? 0 : FULL);
            check.due("storedEvents()", x.storedEvents(), Math.min(i + 1, 32));
        }
        check.due("advance(10)", x.advance(10), 2);
        check.due("storedEvents() after expiry", x.storedEvents(), 24);
        for (int i = 0; i < 10; i++) {
            check.due("addEvent into the room made", x.addEvent(5, 900, 1), i < 8 ? 0 : FULL);
        }
        check.due("storedEvents() again", x.storedEvents(), 32);
    }

    private static void linkedBelowTheGap() {
        check.sentence("linked when their times differ by less than gap, that is |a - b| < gap");
        for (int gap : new int[] {1, 2, 10, 999, 1000}) {
            for (int apart : new int[] {0, gap - 1, gap, gap + 1, 2 * gap}) {
                linked(gap, 5000, 5000 + apart, apart < gap);
                linked(gap, 5000 + apart, 5000, apart < gap);
                linked(gap, 0, apart, apart < gap);
                linked(gap, 1000000, 1000000 - apart, apart < gap);
            }
        }
    }

    private static void linked(int gap, int a, int b, boolean one) {
        EventWindowsX x = new EventWindowsX(gap, 0);
        x.addEvent(4, a, 1);
        x.addEvent(4, b, 2);
        check.due("gap " + gap + ", times " + a + " and " + b + ": sessionCount()", x.sessionCount(), one ? 1 : 2);
        if (one) {
            check.session(x, 0, 4, Math.min(a, b), Math.max(a, b) + gap, 3, 2);
        } else {
            check.session(x, 0, 4, Math.min(a, b), Math.min(a, b) + gap, a < b ? 1 : 2, 1);
            check.session(x, 1, 4, Math.max(a, b), Math.max(a, b) + gap, a < b ? 2 : 1, 1);
        }
    }

    private static void linkedTransitively() {
        check.sentence("connected by links, directly or transitively");
        for (int stride : new int[] {1, 3, 7, 31}) {
            EventWindowsX x = new EventWindowsX(10, 0);
            for (int i = 0; i < 32; i++) {
                x.addEvent(1, 9 * (i * stride % 32), 1);
            }
            check.due("sessionCount() of a chain", x.sessionCount(), 1);
            check.session(x, 0, 1, 0, 9 * 31 + 10, 32, 32);
        }
        EventWindowsX broken = new EventWindowsX(10, 0);
        for (int i = 0; i < 32; i++) {
            broken.addEvent(1, 9 * i + (i >= 20 ? 1 : 0), 1);
        }
        check.due("sessionCount() of a broken chain", broken.sessionCount(), 2);
        check.session(broken, 0, 1, 0, 9 * 19 + 10, 20, 20);
        check.session(broken, 1, 1, 9 * 20 + 1, 9 * 31 + 11, 12, 12);
    }

    private static void keysAreTreatedSeparately() {
        check.sentence("each key is treated separately");
        EventWindowsX x = new EventWindowsX(10, 0);
        for (int key = 7; key >= 0; key--) {
            x.addEvent(key, 100, key);
            x.addEvent(key, 105, 10);
        }
        check.due("sessionCount()", x.sessionCount(), 8);
        for (int key = 0; key < 8; key++) {
            check.session(x, key, key, 100, 115, key + 10, 2);
        }
    }

    private static void attributesOfASession() {
        check.sentence("start, the least time; end, the greatest time + gap; sum; events");
        for (int value : new int[] {1000, -1000, 0}) {
            EventWindowsX x = new EventWindowsX(1000, 0);
            for (int i = 0; i < 32; i++) {
                x.addEvent(0, 999000 + 1000 * (i * 11 % 32) / 31, value);
            }
            check.due("sessionCount()", x.sessionCount(), 1);
            check.session(x, 0, 0, 999000, 1001000, 32 * value, 32);
            check.due("early()", x.early(), 1);
            check.record(x, 0, EARLY, 0, 999000, 1001000, 32 * value);
            check.pane(x, 0, 0, 999000, 1001000, 32 * value);
        }
    }

    private static void coversStartToBeforeEnd() {
        check.sentence("So a session covers [start, end).");
        EventWindowsX inside = new EventWindowsX(10, 0);
        inside.addEvent(0, 100, 1);
        inside.addEvent(0, 109, 2);
        check.due("sessionCount() with an event at end - 1", inside.sessionCount(), 1);
        EventWindowsX outside = new EventWindowsX(10, 0);
        outside.addEvent(0, 100, 1);
        outside.addEvent(0, 110, 2);
        check.due("sessionCount() with an event at end", outside.sessionCount(), 2);
    }

    private static void sessionOrder() {
        check.sentence("Session order is key ascending, then start ascending. Sessions of one key never share a start.");
        EventWindowsX x = new EventWindowsX(1, 0);
        for (int i = 0; i < 32; i++) {
            int place = i * 13 % 32;
            x.addEvent(place / 4, 1000 - 300 * (place / 4 % 2) + place % 4, place);
        }
        check.due("sessionCount()", x.sessionCount(), 32);
        for (int i = 0; i < 32; i++) {
            int start = 1000 - 300 * (i / 4 % 2) + i % 4;
            check.session(x, i, i / 4, start, start + 1, i, 1);
        }
        EventWindowsX shared = new EventWindowsX(1, 0);
        shared.addEvent(2, 50, 1);
        shared.addEvent(2, 50, 2);
        check.due("sessionCount() of two events at one time", shared.sessionCount(), 1);
    }

    private static void watermarkOnlyGrows() {
        check.sentence("Watermark W: starts at 0 and only grows.");
        EventWindowsX x = new EventWindowsX(10, 0);
        check.due("watermark()", x.watermark(), 0);
        int w = 0;
        for (int step : new int[] {1, 0, 5, -1, 5, 6, MIN, 7, 2100001, 2100000, 1, MAX}) {
            x.advance(step);
            w = step <= 2100000 ? Math.max(w, step) : w;
            check.due("watermark() after advance(" + step + ")", x.watermark(), w);
        }
    }

    private static void recordsAreNumberedFromZero() {
        check.sentence("Records are numbered 0, 1, 2, ... in the order emitted.");
        EventWindowsX x = new EventWindowsX(10, 100);
        for (int i = 0; i < 20; i++) {
            x.addEvent(0, 20 * i, i);
            check.due("early()", x.early(), 1);
            check.record(x, i, EARLY, 0, 20 * i, 20 * i + 10, i);
        }
        for (int i = 0; i < 20; i++) {
            check.record(x, i, EARLY, 0, 20 * i, 20 * i + 10, i);
        }
    }

    private static void panesAreEmptyAtFirst() {
        check.sentence("Outstanding panes: a set of (key, start, end, value), empty at first.");
        EventWindowsX x = new EventWindowsX(10, 100);
        check.due("paneCount()", x.paneCount(), 0);
        check.pane(x, 0, -1, -1, -1, -1);
        x.addEvent(0, 100, 1);
        check.due("paneCount() before a record", x.paneCount(), 0);
        check.pane(x, 0, -1, -1, -1, -1);
    }

    private static void everyPaneRecordAdds() {
        check.sentence("Every record of kind EARLY, ONTIME or LATE adds its (key, start, end, value).");
        EventWindowsX x = new EventWindowsX(10, 100);
        x.addEvent(0, 100, 1);
        check.due("early()", x.early(), 1);
        check.pane(x, 0, 0, 100, 110, 1);
        x.addEvent(1, 100, 2);
        check.due("advance(150)", x.advance(150), 1);
        check.pane(x, 1, 1, 100, 110, 2);
        check.due("late", x.addEvent(2, 100, 3), 1);
        check.pane(x, 2, 2, 100, 110, 3);
        check.counts(x, 3, 3, 3, 3, 0);
    }

    private static void everyRetractRemovesItsPane() {
        check.sentence("Every RETRACT record removes the pane it repeats.");
        EventWindowsX x = new EventWindowsX(10, 100);
        x.addEvent(3, 100, 1);
        x.addEvent(3, 120, 2);
        x.addEvent(3, 140, 3);
        x.early();
        x.addEvent(3, 124, 4);
        check.due("early()", x.early(), 2);
        check.record(x, 3, RETRACT, 3, 120, 130, 2);
        check.record(x, 4, EARLY, 3, 120, 134, 6);
        check.due("paneCount()", x.paneCount(), 3);
        check.pane(x, 0, 3, 100, 110, 1);
        check.pane(x, 1, 3, 120, 134, 6);
        check.pane(x, 2, 3, 140, 150, 3);
    }

    private static void panesBelongByTheirEdges() {
        check.sentence("session.start <= pane.start and pane.end <= session.end. There is always exactly one such session.");
        EventWindowsX x = new EventWindowsX(10, 100);
        for (int key = 2; key <= 4; key++) {
            x.addEvent(key, 90, 1);
            x.addEvent(key, 100, 2);
            x.addEvent(key, 110, 4);
        }
        check.due("early()", x.early(), 9);
        x.addEvent(3, 100, 8);
        check.due("early() after a change in the middle", x.early(), 2);
        check.record(x, 9, RETRACT, 3, 100, 110, 2);
        check.record(x, 10, EARLY, 3, 100, 110, 10);
        x.addEvent(3, 91, 16);
        check.due("early() after a bridge to the left", x.early(), 3);
        check.record(x, 11, RETRACT, 3, 90, 100, 1);
        check.record(x, 12, RETRACT, 3, 100, 110, 10);
        check.record(x, 13, EARLY, 3, 90, 110, 27);
        check.due("paneCount()", x.paneCount(), 8);
        check.pane(x, 3, 3, 90, 110, 27);
        check.pane(x, 4, 3, 110, 120, 4);
        guarantees.hold("after a bridge", x);
    }

    private static void panesOfTheNarrowestGapBelongToOneSession() {
        check.sentence("There is always exactly one such session: gap 1, one session at every time");
        EventWindowsX x = new EventWindowsX(1, 100);
        for (int time = 98; time <= 102; time++) {
            x.addEvent(0, time, time);
        }
        check.due("early()", x.early(), 5);
        check.due("early() again", x.early(), 0);
        x.addEvent(0, 100, 7);
        check.due("early() after a change in the middle", x.early(), 2);
        check.record(x, 5, RETRACT, 0, 100, 101, 100);
        check.record(x, 6, EARLY, 0, 100, 101, 107);
        check.due("advance(101), all in sync", x.advance(101), 0);
        check.due("a late change", x.addEvent(0, 99, 7), 2);
        check.record(x, 7, RETRACT, 0, 99, 100, 99);
        check.record(x, 8, LATE, 0, 99, 100, 106);
        check.due("a late zero", x.addEvent(0, 100, 0), 0);
        check.counts(x, 8, 5, 5, 9, 0);
        check.pane(x, 0, 0, 98, 99, 98);
        check.pane(x, 1, 0, 99, 100, 106);
        check.pane(x, 2, 0, 100, 101, 107);
        check.pane(x, 3, 0, 101, 102, 101);
        check.pane(x, 4, 0, 102, 103, 102);
    }

    private static void touchingPanesDoNotOverlap() {
        check.sentence("Panes of one key never overlap.");
        EventWindowsX x = new EventWindowsX(10, 100);
        x.addEvent(0, 100, 1);
        x.addEvent(0, 110, 2);
        x.advance(105);
        x.early();
        check.pane(x, 0, 0, 100, 110, 1);
        check.pane(x, 1, 0, 110, 120, 2);
        x.addEvent(0, 119, 4);
        x.early();
        check.pane(x, 0, 0, 100, 110, 1);
        check.pane(x, 1, 0, 110, 129, 6);
        x.addEvent(0, 101, 8);
        x.early();
        check.due("paneCount()", x.paneCount(), 1);
        check.pane(x, 0, 0, 100, 129, 15);
    }

    private static void atMostThirtyTwoPanes() {
        check.sentence("At most 32 panes are outstanding.");
        EventWindowsX x = new EventWindowsX(1, 1000);
        for (int i = 0; i < 40; i++) {
            check.due("addEvent number " + i, x.addEvent(i % 8, i, 1), i < 32 ? 0 : FULL);
            check.due("early() number " + i, x.early(), i < 32 ? 1 : 0);
            check.due("paneCount()", x.paneCount(), Math.min(i + 1, 32));
        }
        check.due("advance(900)", x.advance(900), 0);
        check.counts(x, 32, 32, 32, 32, 0);
        guarantees.hold("32 panes", x);
    }

    private static void paneOrder() {
        check.sentence("Pane order is key ascending, then start ascending.");
        EventWindowsX x = new EventWindowsX(1, 1000);
        x.advance(500);
        for (int i = 0; i < 32; i++) {
            int place = i * 19 % 32;
            check.due("late", x.addEvent(place / 4, 400 - 100 * (place / 4 % 2) + place % 4, place), 1);
        }
        for (int i = 0; i < 32; i++) {
            int start = 400 - 100 * (i / 4 % 2) + i % 4;
            check.pane(x, i, i / 4, start, start + 1, i);
        }
    }

    private static EventWindowsX early(int key, int time, int value) {
        EventWindowsX x = new EventWindowsX(10, 100);
        x.addEvent(key, time, value);
        x.early();
        return x;
    }

    private static void inSyncNeedsAPane() {
        check.sentence("in sync if and only if exactly one outstanding pane belongs to S: none");
        EventWindowsX x = new EventWindowsX(10, 100);
        x.addEvent(0, 0, 0);
        check.due("early() of a session with the sum 0", x.early(), 1);
        check.record(x, 0, EARLY, 0, 0, 10, 0);
        EventWindowsX other = early(1, 100, 5);
        other.addEvent(2, 100, 5);
        check.due("early() beside another key's equal pane", other.early(), 1);
        check.record(other, 1, EARLY, 2, 100, 110, 5);
    }

    private static void inSyncNeedsTheStart() {
        check.sentence("and that pane has start = S.start");
        EventWindowsX x = early(0, 100, 5);
        x.addEvent(0, 99, 0);
        check.due("early()", x.early(), 2);
        check.record(x, 1, RETRACT, 0, 100, 110, 5);
        check.record(x, 2, EARLY, 0, 99, 110, 5);
    }

    private static void inSyncNeedsTheEnd() {
        check.sentence("and that pane has end = S.end");
        EventWindowsX x = early(0, 100, 5);
        x.addEvent(0, 101, 0);
        check.due("early()", x.early(), 2);
        check.record(x, 1, RETRACT, 0, 100, 110, 5);
        check.record(x, 2, EARLY, 0, 100, 111, 5);
    }

    private static void inSyncNeedsTheSum() {
        check.sentence("and that pane has value = S.sum");
        for (int more : new int[] {1, -1, -5, -10}) {
            EventWindowsX x = early(0, 100, 5);
            x.addEvent(0, 100, more);
            check.due("early()", x.early(), 2);
            check.record(x, 1, RETRACT, 0, 100, 110, 5);
            check.record(x, 2, EARLY, 0, 100, 110, 5 + more);
        }
    }

    private static void inSyncNeedsOnePaneAlone() {
        check.sentence("in sync if and only if exactly one outstanding pane belongs to S: two");
        EventWindowsX x = early(0, 100, 0);
        x.addEvent(0, 110, 0);
        x.early();
        x.addEvent(0, 105, 0);
        check.due("early()", x.early(), 3);
        check.record(x, 2, RETRACT, 0, 100, 110, 0);
        check.record(x, 3, RETRACT, 0, 110, 120, 0);
        check.record(x, 4, EARLY, 0, 100, 120, 0);
        check.due("early() again", x.early(), 0);
    }

    private static void inSyncAgainAfterOppositeValues() {
        check.sentence("In sync: a session S is in sync if and only if ...: values that cancel out");
        EventWindowsX x = early(0, 100, 5);
        x.addEvent(0, 100, 7);
        x.addEvent(0, 100, -7);
        check.due("early()", x.early(), 0);
        check.due("advance(110)", x.advance(110), 0);
        check.counts(x, 3, 1, 1, 1, 0);
        check.pane(x, 0, 0, 100, 110, 5);
    }

    private static void firingInSyncDoesNothing() {
        check.sentence("If S is in sync, nothing happens.");
        for (States.State state : States.all()) {
            EventWindowsX x = state.make();
            x.early();
            var before = Answers.of(x);
            check.due(state.name() + ", early() again", x.early(), 0);
            check.same(state.name() + ", early() again", before, Answers.of(x));
        }
        EventWindowsX x = early(0, 100, 5);
        check.due("advance(110)", x.advance(110), 0);
        check.counts(x, 1, 1, 1, 1, 0);
        check.record(x, 0, EARLY, 0, 100, 110, 5);
        check.pane(x, 0, 0, 100, 110, 5);
        check.due("late zero", x.addEvent(0, 100, 0), 0);
        check.counts(x, 2, 1, 1, 1, 0);
    }

    private static void firingRetractsFirst() {
        check.sentence("first, each outstanding pane belonging to S is handled in ascending start");
        EventWindowsX x = new EventWindowsX(10, 100);
        x.addEvent(5, 130, 3);
        x.early();
        x.addEvent(5, 100, 1);
        x.early();
        x.addEvent(5, 115, 2);
        x.early();
        x.addEvent(5, 107, 4);
        x.addEvent(5, 122, 8);
        check.due("early()", x.early(), 4);
        check.record(x, 3, RETRACT, 5, 100, 110, 1);
        check.record(x, 4, RETRACT, 5, 115, 125, 2);
        check.record(x, 5, RETRACT, 5, 130, 140, 3);
        check.record(x, 6, EARLY, 5, 100, 140, 18);
        check.due("paneCount()", x.paneCount(), 1);
        check.pane(x, 0, 5, 100, 140, 18);
    }

    private static void expiringEmitsNothing() {
        check.sentence("Expiring session S: ... No record is emitted.");
        EventWindowsX x = new EventWindowsX(10, 20);
        x.addEvent(0, 100, 1);
        x.addEvent(0, 105, 2);
        check.due("advance(134)", x.advance(134), 1);
        var before = Answers.readableRecords(x);
        check.counts(x, 2, 1, 1, 1, 0);
        check.due("advance(135)", x.advance(135), 0);
        check.counts(x, 0, 0, 0, 1, 0);
        check.isTrue("the records are as before", before.equals(Answers.readableRecords(x)));
    }

    private static void standingGuarantee() {
        check.sentence("after every call, every session with end <= W is in sync");
        for (States.State state : States.all()) {
            EventWindowsX x = state.make();
            guarantees.hold(state.name(), x);
            for (int step = 0; step < 60; step++) {
                int w = x.watermark();
                int time = Math.max(0, Math.min(1000000, w - x.lateness() + step * 37 % (x.lateness() + 40)));
                x.addEvent(step * 3 % 8, time, step - 30);
                guarantees.hold(state.name() + ", addEvent, step " + step, x);
                if (step % 3 == 0) {
                    x.early();
                    guarantees.hold(state.name() + ", early, step " + step, x);
                }
                if (step % 4 == 0) {
                    x.advance(w + 1 + step % 7 * x.gap() / 2);
                    guarantees.hold(state.name() + ", advance, step " + step, x);
                }
            }
        }
    }

    private static void badCallsChangeNothing() {
        check.sentence("A refused call changes nothing: BAD");
        int[][] wrong = {
            {-1, 100, 1}, {8, 100, 1}, {MIN, 100, 1}, {MAX, 100, 1},
            {2, -1, 1}, {2, 1000001, 1}, {2, MIN, 1}, {2, MAX, 1},
            {2, 100, 1001}, {2, 100, -1001}, {2, 100, MIN}, {2, 100, MAX}, {-1, -1, -1001},
        };
        for (States.State state : States.all()) {
            for (int[] a : wrong) {
                twins.unchanged(state, "addEvent(" + a[0] + ", " + a[1] + ", " + a[2] + ")", x -> x.addEvent(a[0], a[1], a[2]), BAD);
            }
            int w = state.make().watermark();
            for (int to : new int[] {w, w - 1, 0, -1, MIN, 2100001, MAX}) {
                twins.unchanged(state, "advance(" + to + ")", x -> x.advance(to), BAD);
            }
        }
    }

    private static void fullCallsChangeNothing() {
        check.sentence("A refused call changes nothing: FULL");
        int states = 0;
        for (States.State state : States.all()) {
            EventWindowsX look = state.make();
            if (look.storedEvents() < 32) {
                continue;
            }
            states++;
            int oldest = Math.max(0, look.watermark() - look.lateness());
            for (int time : new int[] {oldest, look.sessionField(0, EventWindowsX.F_START), look.watermark() + 500, 1000000}) {
                for (int key = 0; key < 8; key++) {
                    int k = key;
                    ToIntFunction<EventWindowsX> call = x -> x.addEvent(k, time, -9);
                    twins.unchanged(state, "addEvent(" + k + ", " + time + ", -9)", call, FULL);
                }
            }
        }
        check.due("states with a full store", states, 3);
    }

    private static void droppedCallsOnlyCount() {
        check.sentence("The one exception is DROPPED, which only increases the dropped count.");
        int states = 0;
        for (States.State state : States.all()) {
            EventWindowsX look = state.make();
            int newest = Math.min(1000000, look.watermark() - look.lateness() - 1);
            if (newest < 0) {
                continue;
            }
            states++;
            for (int key = 0; key < 8; key++) {
                int k = key;
                twins.onlyDropped(state, "addEvent(" + k + ", " + newest + ", 9)", x -> x.addEvent(k, newest, 9));
            }
            twins.onlyDropped(state, "addEvent(0, 0, 0)", x -> x.addEvent(0, 0, 0));
        }
        check.isTrue("states where events can be too old: " + states, states >= 5);
    }

    private static void consequenceAtTheLastMoment() {
        check.sentence("W >= T + gap() + lateness() for every event time T in A: all are then 0");
        EventWindowsX x = new EventWindowsX(10, 20);
        x.addEvent(0, 100, 1);
        x.addEvent(1, 100, 1);
        x.addEvent(1, 92, 1);
        x.early();
        x.advance(129);
        check.counts(x, 3, 2, 2, 2, 0);
        x.advance(130);
        check.counts(x, 0, 0, 0, 2, 0);
        check.record(x, 0, EARLY, 0, 100, 110, 1);
        check.record(x, 1, EARLY, 1, 92, 110, 2);
    }

    private static void consequenceWithoutEvents() {
        check.sentence("Consequence for consumers: no event was admitted");
        EventWindowsX x = new EventWindowsX(10, 20);
        x.early();
        x.advance(1);
        x.addEvent(8, 0, 0);
        x.advance(2100000);
        x.early();
        check.counts(x, 0, 0, 0, 0, 0);
    }

    private static void consequenceLeavesOutRefusedEvents() {
        check.sentence("Let A be the admitted events, meaning the addEvent calls that answered a value >= 0.");
        EventWindowsX x = new EventWindowsX(10, 20);
        x.advance(50);
        check.due("too old", x.addEvent(0, 29, 500), DROPPED);
        for (int i = 0; i < 32; i++) {
            check.due("addEvent(0, 60, 1)", x.addEvent(0, 60, 1), 0);
        }
        check.due("full", x.addEvent(0, 60, 500), FULL);
        check.due("bad", x.addEvent(0, 60, 1001), BAD);
        check.due("advance(90)", x.advance(90), 1);
        check.record(x, 0, ONTIME, 0, 60, 70, 32);
        check.counts(x, 0, 0, 0, 1, 1);
    }
}
