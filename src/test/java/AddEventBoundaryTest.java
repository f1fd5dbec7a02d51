/** Promise 4: a test for each sentence that names a boundary. */
public final class AddEventBoundaryTest {
    private static final int BAD = EventWindowsX.BAD;
    private static final int DROPPED = EventWindowsX.DROPPED;
    private static final int FULL = EventWindowsX.FULL;
    private static final int EARLY = EventWindowsX.EARLY;
    private static final int ONTIME = EventWindowsX.ONTIME;
    private static final int LATE = EventWindowsX.LATE;
    private static final int RETRACT = EventWindowsX.RETRACT;
    private static final int MIN = Integer.MIN_VALUE;
    private static final int MAX = Integer.MAX_VALUE;

    private static final Check check = new Check();
    private static final Twins twins = new Twins(check);

    public static void main(String[] args) {
        keyOutside();
        timeOutside();
        valueOutside();
        keysInside();
        timesInside();
        valuesInside();
        tooOld();
        neverTooOldAtTheStart();
        tooOldOnlyCounts();
        full();
        fullByOneEvent();
        badKeyComesBeforeTheRest();
        badTimeComesBeforeTheRest();
        badValueComesBeforeTheRest();
        tooOldComesBeforeFull();
        badDoesNotCountAsDropped();
        fullDoesNotFire();
        identicalCopies();
        identicalLateCopies();
        startsASession();
        joinsInside();
        joinsAndMovesTheStart();
        joinsAndMovesTheEnd();
        bridges();
        bridgesOnlyWithinTheGap();
        lateAtTheEnd();
        lateRetractsMergedSessions();
        lateInSync();
        silentAboveTheEnd();
        silentWhenAFiredSessionGrowsPastW();
        silentWhenAFiredSessionMeetsAnOpenOne();
        otherKeysStay();
        watermarkAndDropsStay();
        earlierRecordsStay();
        answersTheNumberOfRecords();
        check.end();
    }

    private static void refusedAsBad(int key, int time, int value) {
        String call = "addEvent(" + key + ", " + time + ", " + value + ")";
        for (States.State state : States.all()) {
            twins.unchanged(state, call, x -> x.addEvent(key, time, value), BAD);
        }
    }

    private static void keyOutside() {
        check.sentence("key outside 0..MAX_KEY: answers BAD.");
        for (int key : new int[] {MIN, MIN + 1, -8, -1, 8, 9, 15, 256, MAX}) {
            refusedAsBad(key, 100, 1);
        }
    }

    private static void timeOutside() {
        check.sentence("time outside 0..MAX_TIME: answers BAD.");
        for (int time : new int[] {MIN, MIN + 1, -1000, -1, 1000001, 1000002, 2100000, MAX - 1000, MAX}) {
            refusedAsBad(2, time, 1);
        }
    }

    private static void valueOutside() {
        check.sentence("value outside -MAX_VALUE..MAX_VALUE: answers BAD.");
        for (int value : new int[] {MIN, MIN + 1, -1002, -1001, 1001, 1002, 65536, MAX}) {
            refusedAsBad(2, 100, value);
        }
    }

    private static void keysInside() {
        check.sentence("key outside 0..MAX_KEY: the keys inside are taken");
        EventWindowsX x = new EventWindowsX(10, 0);
        for (int key = 0; key <= 7; key++) {
            check.due("addEvent(" + key + ", 100, 1)", x.addEvent(key, 100, 1), 0);
            check.session(x, key, key, 100, 110, 1, 1);
        }
        check.counts(x, 8, 8, 0, 0, 0);
    }

    private static void timesInside() {
        check.sentence("time outside 0..MAX_TIME: the times inside are taken");
        for (int time : new int[] {0, 1, 2, 999999, 1000000}) {
            EventWindowsX x = new EventWindowsX(10, 0);
            check.due("addEvent(0, " + time + ", 1)", x.addEvent(0, time, 1), 0);
            check.session(x, 0, 0, time, time + 10, 1, 1);
        }
    }

    private static void valuesInside() {
        check.sentence("value outside -MAX_VALUE..MAX_VALUE: the values inside are taken");
        for (int value = -1000; value <= 1000; value++) {
            EventWindowsX x = new EventWindowsX(10, 0);
            check.due("addEvent(0, 100, " + value + ")", x.addEvent(0, 100, value), 0);
            check.session(x, 0, 0, 100, 110, value, 1);
        }
    }

    private static void tooOld() {
        check.sentence("time + lateness < W: answers DROPPED.");
        for (int lateness : new int[] {0, 1, 50, 1000}) {
            for (int w : new int[] {1001, 5000, 1000000}) {
                EventWindowsX x = new EventWindowsX(1000, lateness);
                x.advance(w);
                check.due("far too old", x.addEvent(0, 0, 1), DROPPED);
                check.due("just too old", x.addEvent(0, w - lateness - 1, 1), DROPPED);
                check.counts(x, 0, 0, 0, 0, 2);
                check.due("just not too old", x.addEvent(0, w - lateness, 1), lateness == 1000 ? 1 : 0);
                check.due("storedEvents()", x.storedEvents(), 1);
                check.due("droppedCount()", x.droppedCount(), 2);
            }
        }
    }

    private static void neverTooOldAtTheStart() {
        check.sentence("time + lateness < W: nothing is too old for W = 0, nor while W <= lateness");
        EventWindowsX strict = new EventWindowsX(10, 0);
        check.due("addEvent(0, 0, 1) at W = 0", strict.addEvent(0, 0, 1), 0);
        EventWindowsX x = new EventWindowsX(10, 50);
        x.advance(50);
        check.due("addEvent(0, 0, 1) at W = lateness", x.addEvent(0, 0, 1), 1);
        EventWindowsX past = new EventWindowsX(10, 50);
        past.advance(51);
        check.due("addEvent(0, 0, 1) at W = lateness + 1", past.addEvent(0, 0, 1), DROPPED);
    }

    private static void tooOldOnlyCounts() {
        check.sentence("The dropped count grows by 1, and nothing else changes.");
        for (States.State state : States.all()) {
            EventWindowsX look = state.make();
            int newest = Math.min(1000000, look.watermark() - look.lateness() - 1);
            for (int time = newest; time >= 0 && time > newest - 3; time--) {
                int t = time;
                for (int key = 0; key <= 7; key++) {
                    int k = key;
                    twins.onlyDropped(state, "addEvent(" + k + ", " + t + ", 1000)", x -> x.addEvent(k, t, 1000));
                }
            }
        }
        EventWindowsX x = new EventWindowsX(10, 0);
        x.advance(1);
        for (int i = 1; i <= 100; i++) {
            check.due("addEvent(0, 0, 1)", x.addEvent(0, 0, 1), DROPPED);
            check.due("droppedCount()", x.droppedCount(), i);
        }
    }

    private static void full() {
        check.sentence("CAPACITY events are already stored: answers FULL. A FULL answer changes nothing at all.");
        for (States.State state : States.all()) {
            EventWindowsX look = state.make();
            if (look.storedEvents() < 32) {
                continue;
            }
            int oldest = Math.max(0, look.watermark() - look.lateness());
            for (int time : new int[] {oldest, oldest + 1, 91, 100, 109, 110, 1000000}) {
                for (int value : new int[] {-1000, 0, 3}) {
                    String call = "addEvent(2, " + time + ", " + value + ")";
                    twins.unchanged(state, call, x -> x.addEvent(2, time, value), FULL);
                }
            }
        }
    }

    private static void fullByOneEvent() {
        check.sentence("CAPACITY events are already stored: 31 leave room for one more");
        EventWindowsX x = new EventWindowsX(10, 50);
        States.copies(x, 31);
        check.due("the 32nd event", x.addEvent(5, 700, 1), 0);
        check.due("the 33rd event", x.addEvent(5, 700, 1), FULL);
        check.counts(x, 32, 2, 0, 0, 0);
        check.session(x, 0, 2, 100, 110, 93, 31);
        check.session(x, 1, 5, 700, 710, 1, 1);
    }

    // A full store at W = 600, for which times up to 549 are too old.
    private static EventWindowsX fullAndPastSome() {
        EventWindowsX x = new EventWindowsX(10, 50);
        for (int i = 0; i < 32; i++) {
            x.addEvent(2, 700, 3);
        }
        x.advance(600);
        check.due("addEvent is too old", x.addEvent(2, 549, 1), DROPPED);
        check.due("addEvent is one too many", x.addEvent(2, 550, 1), FULL);
        check.counts(x, 32, 1, 0, 0, 1);
        return x;
    }

    private static void badKeyComesBeforeTheRest() {
        check.sentence("the first that applies decides the answer: key");
        EventWindowsX x = fullAndPastSome();
        for (int key : new int[] {-1, 8}) {
            for (int time : new int[] {-1, 1000001, 100, 549, 550, 700}) {
                for (int value : new int[] {-1001, 0, 1001}) {
                    check.due("addEvent(" + key + ", " + time + ", " + value + ")", x.addEvent(key, time, value), BAD);
                }
            }
        }
        check.counts(x, 32, 1, 0, 0, 1);
    }

    private static void badTimeComesBeforeTheRest() {
        check.sentence("the first that applies decides the answer: time");
        EventWindowsX x = fullAndPastSome();
        for (int time : new int[] {MIN, -1000, -1, 1000001, MAX}) {
            for (int value : new int[] {-1001, 0, 1001}) {
                check.due("addEvent(2, " + time + ", " + value + ")", x.addEvent(2, time, value), BAD);
            }
        }
        check.counts(x, 32, 1, 0, 0, 1);
        x.advance(2100000);
        check.due("addEvent(2, 1000001, 0) at the greatest W", x.addEvent(2, 1000001, 0), BAD);
        check.due("addEvent(2, 1000000, 0) at the greatest W", x.addEvent(2, 1000000, 0), DROPPED);
        check.due("droppedCount()", x.droppedCount(), 2);
    }

    private static void badValueComesBeforeTheRest() {
        check.sentence("the first that applies decides the answer: value");
        EventWindowsX x = fullAndPastSome();
        for (int time : new int[] {0, 100, 549, 550, 700, 1000000}) {
            for (int value : new int[] {MIN, -1001, 1001, MAX}) {
                check.due("addEvent(2, " + time + ", " + value + ")", x.addEvent(2, time, value), BAD);
            }
        }
        check.counts(x, 32, 1, 0, 0, 1);
    }

    private static void tooOldComesBeforeFull() {
        check.sentence("the first that applies decides the answer: too old before full");
        EventWindowsX x = fullAndPastSome();
        for (int i = 0; i < 10; i++) {
            check.due("addEvent(7, " + (540 + i) + ", 1)", x.addEvent(7, 540 + i, 1), DROPPED);
        }
        for (int i = 0; i < 10; i++) {
            check.due("addEvent(7, " + (550 + i) + ", 1)", x.addEvent(7, 550 + i, 1), FULL);
        }
        check.counts(x, 32, 1, 0, 0, 11);
    }

    private static void badDoesNotCountAsDropped() {
        check.sentence("In particular, no record is emitted and the dropped count stays the same: BAD");
        EventWindowsX x = new EventWindowsX(10, 0);
        x.advance(500);
        check.due("bad key, too old", x.addEvent(-1, 0, 0), BAD);
        check.due("bad time, too old", x.addEvent(0, -1, 0), BAD);
        check.due("bad value, too old", x.addEvent(0, 0, 1001), BAD);
        check.due("bad key", x.addEvent(8, 600, 0), BAD);
        check.due("bad time", x.addEvent(0, 1000001, 0), BAD);
        check.due("bad value", x.addEvent(0, 600, -1001), BAD);
        check.counts(x, 0, 0, 0, 0, 0);
    }

    private static void fullDoesNotFire() {
        check.sentence("In particular, no record is emitted and the dropped count stays the same: FULL");
        EventWindowsX x = new EventWindowsX(10, 50);
        States.copies(x, 32);
        check.due("advance(110)", x.advance(110), 1);
        check.due("a late event of the fired session", x.addEvent(2, 100, 5), FULL);
        check.due("a late event of its own", x.addEvent(3, 60, 5), FULL);
        check.counts(x, 32, 1, 1, 1, 0);
        check.pane(x, 0, 2, 100, 110, 96);
    }

    private static void identicalCopies() {
        check.sentence("each copy counts separately in storedEvents(), in the session's events and in its sum");
        EventWindowsX x = new EventWindowsX(10, 50);
        for (int i = 1; i <= 32; i++) {
            check.due("a copy", x.addEvent(7, 1000000, -1000), 0);
            check.counts(x, i, 1, 0, 0, 0);
            check.session(x, 0, 7, 1000000, 1000010, -1000 * i, i);
        }
        check.due("a copy too many", x.addEvent(7, 1000000, -1000), FULL);
        check.session(x, 0, 7, 1000000, 1000010, -32000, 32);
    }

    private static void identicalLateCopies() {
        check.sentence("This holds even if an identical (key, time, value) is already stored: late copies");
        EventWindowsX x = new EventWindowsX(10, 50);
        x.advance(110);
        check.due("a late event", x.addEvent(1, 100, 4), 1);
        for (int i = 2; i <= 32; i++) {
            check.due("a late copy", x.addEvent(1, 100, 4), 2);
            check.record(x, 2 * i - 3, RETRACT, 1, 100, 110, 4 * (i - 1));
            check.record(x, 2 * i - 2, LATE, 1, 100, 110, 4 * i);
            check.counts(x, i, 1, 1, 2 * i - 1, 0);
        }
        EventWindowsX zeros = new EventWindowsX(10, 50);
        zeros.advance(110);
        check.due("a late zero", zeros.addEvent(1, 100, 0), 1);
        for (int i = 2; i <= 32; i++) {
            check.due("a late copy of the zero", zeros.addEvent(1, 100, 0), 0);
            check.counts(zeros, i, 1, 1, 1, 0);
            check.session(zeros, 0, 1, 100, 110, 0, i);
        }
    }

    private static void startsASession() {
        check.sentence("The new event may therefore: start a session of its own");
        EventWindowsX x = new EventWindowsX(10, 0);
        x.addEvent(3, 100, 1);
        x.addEvent(3, 110, 2);
        x.addEvent(3, 90, 4);
        x.addEvent(2, 100, 8);
        check.due("sessionCount()", x.sessionCount(), 4);
        check.session(x, 0, 2, 100, 110, 8, 1);
        check.session(x, 1, 3, 90, 100, 4, 1);
        check.session(x, 2, 3, 100, 110, 1, 1);
        check.session(x, 3, 3, 110, 120, 2, 1);
    }

    private static EventWindowsX twoEvents() {
        EventWindowsX x = new EventWindowsX(10, 0);
        x.addEvent(3, 100, 1);
        x.addEvent(3, 106, 2);
        return x;
    }

    private static void joinsInside() {
        check.sentence("join an existing session");
        for (int time = 100; time <= 106; time++) {
            EventWindowsX x = twoEvents();
            x.addEvent(3, time, 4);
            check.due("sessionCount()", x.sessionCount(), 1);
            check.session(x, 0, 3, 100, 116, 7, 3);
        }
    }

    private static void joinsAndMovesTheStart() {
        check.sentence("possibly moving its start");
        for (int time = 91; time <= 99; time++) {
            EventWindowsX x = twoEvents();
            x.addEvent(3, time, 4);
            check.due("sessionCount()", x.sessionCount(), 1);
            check.session(x, 0, 3, time, 116, 7, 3);
        }
        EventWindowsX apart = twoEvents();
        apart.addEvent(3, 90, 4);
        check.due("sessionCount() with gap before the start", apart.sessionCount(), 2);
        check.session(apart, 1, 3, 100, 116, 3, 2);
    }

    private static void joinsAndMovesTheEnd() {
        check.sentence("possibly moving its start or end");
        for (int time = 107; time <= 115; time++) {
            EventWindowsX x = twoEvents();
            x.addEvent(3, time, 4);
            check.due("sessionCount()", x.sessionCount(), 1);
            check.session(x, 0, 3, 100, time + 10, 7, 3);
        }
        EventWindowsX apart = twoEvents();
        apart.addEvent(3, 116, 4);
        check.due("sessionCount() with an event at the end", apart.sessionCount(), 2);
        check.session(apart, 0, 3, 100, 116, 3, 2);
    }

    private static void bridges() {
        check.sentence("bridge two earlier sessions into one");
        EventWindowsX x = new EventWindowsX(10, 0);
        x.addEvent(3, 100, 1);
        x.addEvent(3, 118, 2);
        x.addEvent(3, 140, 16);
        x.addEvent(3, 80, 32);
        x.addEvent(3, 109, 4);
        check.due("sessionCount()", x.sessionCount(), 3);
        check.session(x, 0, 3, 80, 90, 32, 1);
        check.session(x, 1, 3, 100, 128, 7, 3);
        check.session(x, 2, 3, 140, 150, 16, 1);
    }

    private static void bridgesOnlyWithinTheGap() {
        check.sentence("bridge two earlier sessions into one: not from gap away");
        EventWindowsX left = new EventWindowsX(10, 0);
        left.addEvent(3, 100, 1);
        left.addEvent(3, 119, 2);
        left.addEvent(3, 109, 4);
        check.due("sessionCount()", left.sessionCount(), 2);
        check.session(left, 0, 3, 100, 119, 5, 2);
        check.session(left, 1, 3, 119, 129, 2, 1);
        EventWindowsX right = new EventWindowsX(10, 0);
        right.addEvent(3, 100, 1);
        right.addEvent(3, 119, 2);
        right.addEvent(3, 110, 4);
        check.due("sessionCount()", right.sessionCount(), 2);
        check.session(right, 0, 3, 100, 110, 1, 1);
        check.session(right, 1, 3, 110, 129, 6, 2);
        EventWindowsX otherKey = new EventWindowsX(10, 0);
        otherKey.addEvent(3, 100, 1);
        otherKey.addEvent(3, 110, 2);
        otherKey.addEvent(4, 105, 4);
        check.due("sessionCount() with another key between", otherKey.sessionCount(), 3);
    }

    private static void lateAtTheEnd() {
        check.sentence("If S.end <= W, S is fired with kind LATE.");
        EventWindowsX x = new EventWindowsX(10, 100);
        x.advance(200);
        check.due("S.end = W", x.addEvent(0, 190, 1), 1);
        check.record(x, 0, LATE, 0, 190, 200, 1);
        check.due("S.end = W - 1", x.addEvent(1, 189, 2), 1);
        check.record(x, 1, LATE, 1, 189, 199, 2);
        check.due("the oldest event", x.addEvent(2, 100, 3), 1);
        check.record(x, 2, LATE, 2, 100, 110, 3);
        check.counts(x, 3, 3, 3, 3, 0);
    }

    private static void lateRetractsMergedSessions() {
        check.sentence("Every outstanding pane belonging to S is retracted first, in ascending start, then the LATE record is emitted.");
        EventWindowsX x = new EventWindowsX(10, 100);
        x.addEvent(0, 100, 1);
        x.addEvent(0, 110, 2);
        x.addEvent(0, 130, 8);
        check.due("advance(140)", x.advance(140), 3);
        check.due("the bridge", x.addEvent(0, 105, 4), 3);
        check.record(x, 3, RETRACT, 0, 100, 110, 1);
        check.record(x, 4, RETRACT, 0, 110, 120, 2);
        check.record(x, 5, LATE, 0, 100, 120, 7);
        check.counts(x, 4, 2, 2, 6, 0);
        check.pane(x, 0, 0, 100, 120, 7);
        check.pane(x, 1, 0, 130, 140, 8);
    }

    private static void lateInSync() {
        check.sentence("If S happens to be in sync already, nothing is emitted.");
        EventWindowsX x = new EventWindowsX(10, 100);
        x.addEvent(0, 100, 1);
        x.addEvent(0, 104, 1);
        x.advance(114);
        for (int time = 100; time <= 104; time++) {
            check.due("a zero inside", x.addEvent(0, time, 0), 0);
        }
        check.counts(x, 7, 1, 1, 1, 0);
        check.session(x, 0, 0, 100, 114, 2, 7);
        check.pane(x, 0, 0, 100, 114, 2);
    }

    private static void silentAboveTheEnd() {
        check.sentence("If S.end > W, nothing is emitted.");
        EventWindowsX x = new EventWindowsX(10, 100);
        x.advance(200);
        check.due("S.end = W + 1", x.addEvent(0, 191, 1), 0);
        check.due("S.end = W + 2", x.addEvent(1, 192, 1), 0);
        check.due("time = W", x.addEvent(2, 200, 1), 0);
        check.counts(x, 3, 3, 0, 0, 0);
        check.due("an old event that joins an open session", x.addEvent(0, 182, 1), 0);
        check.counts(x, 4, 3, 0, 0, 0);
        check.session(x, 0, 0, 182, 201, 2, 2);
    }

    private static void silentWhenAFiredSessionGrowsPastW() {
        check.sentence("If S.end > W, nothing is emitted: a fired session moves its end");
        EventWindowsX x = new EventWindowsX(10, 100);
        x.addEvent(0, 100, 1);
        check.due("advance(110)", x.advance(110), 1);
        check.due("addEvent(0, 101, 2)", x.addEvent(0, 101, 2), 0);
        check.counts(x, 2, 1, 1, 1, 0);
        check.pane(x, 0, 0, 100, 110, 1);
        check.due("advance(111)", x.advance(111), 2);
        check.record(x, 1, RETRACT, 0, 100, 110, 1);
        check.record(x, 2, ONTIME, 0, 100, 111, 3);
    }

    private static void silentWhenAFiredSessionMeetsAnOpenOne() {
        check.sentence("If S.end > W, nothing is emitted: a fired session is bridged to an open one");
        EventWindowsX x = new EventWindowsX(10, 100);
        x.addEvent(0, 100, 1);
        x.addEvent(0, 115, 2);
        check.due("early()", x.early(), 2);
        check.due("advance(112)", x.advance(112), 0);
        check.due("the bridge", x.addEvent(0, 107, 4), 0);
        check.counts(x, 3, 1, 2, 2, 0);
        check.pane(x, 0, 0, 100, 110, 1);
        check.pane(x, 1, 0, 115, 125, 2);
        check.due("early()", x.early(), 3);
        check.record(x, 2, RETRACT, 0, 100, 110, 1);
        check.record(x, 3, RETRACT, 0, 115, 125, 2);
        check.record(x, 4, EARLY, 0, 100, 125, 7);
    }

    private static void otherKeysStay() {
        check.sentence("Sessions of other keys ... do not change.");
        for (States.State state : States.all()) {
            for (int key = 0; key <= 7; key++) {
                EventWindowsX x = state.make();
                for (int back = 0; back < 30; back++) {
                    int time = Math.max(0, Math.min(1000000, x.watermark() + 12 - 2 * back));
                    String before = Answers.otherKeys(x, key);
                    x.addEvent(key, time, back);
                    check.isTrue(state.name() + ": other keys after addEvent(" + key + ", " + time + ", " + back + ")",
                            before.equals(Answers.otherKeys(x, key)));
                }
            }
        }
    }

    private static void watermarkAndDropsStay() {
        check.sentence("W and the dropped count do not change.");
        for (States.State state : States.all()) {
            EventWindowsX x = state.make();
            int w = x.watermark();
            int drops = x.droppedCount();
            for (int i = 0; i < 40; i++) {
                int time = Math.max(0, Math.min(1000000, w - x.lateness() + 7 * i));
                int answer = x.addEvent(i % 8, time, i);
                drops += answer == DROPPED ? 1 : 0;
                check.due(state.name() + ": watermark()", x.watermark(), w);
                check.due(state.name() + ": droppedCount()", x.droppedCount(), drops);
            }
        }
    }

    private static void earlierRecordsStay() {
        check.sentence("Records already emitted do not change: addEvent");
        for (States.State state : States.all()) {
            EventWindowsX x = state.make();
            for (int i = 0; i < 40; i++) {
                var before = Answers.readableRecords(x);
                int time = Math.max(0, Math.min(1000000, x.watermark() - x.lateness() + 7 * i));
                x.addEvent(i % 8, time, i);
                var after = Answers.readableRecords(x);
                before.keySet().retainAll(after.keySet());
                after.keySet().retainAll(before.keySet());
                check.isTrue(state.name() + ": records after event " + i, before.equals(after));
            }
        }
    }

    private static void answersTheNumberOfRecords() {
        check.sentence("The answer is the number of records this call emitted, 0 or more: addEvent");
        EventWindowsX x = new EventWindowsX(10, 100);
        check.due("none", x.addEvent(0, 300, 1), 0);
        check.due("recordCount()", x.recordCount(), 0);
        x.advance(200);
        check.due("one", x.addEvent(0, 100, 1), 1);
        check.due("recordCount()", x.recordCount(), 1);
        check.due("two", x.addEvent(0, 100, 1), 2);
        check.due("recordCount()", x.recordCount(), 3);
        check.due("one", x.addEvent(0, 118, 1), 1);
        check.due("recordCount()", x.recordCount(), 4);
        check.due("three", x.addEvent(0, 109, 1), 3);
        check.due("recordCount()", x.recordCount(), 7);
        check.due("none in sync", x.addEvent(0, 109, 0), 0);
        check.due("recordCount()", x.recordCount(), 7);
    }
}
