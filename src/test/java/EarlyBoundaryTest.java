/** Promise 6: a test for each sentence that names a boundary. */
public final class EarlyBoundaryTest {
    private static final int EARLY = EventWindowsX.EARLY;
    private static final int ONTIME = EventWindowsX.ONTIME;
    private static final int RETRACT = EventWindowsX.RETRACT;

    private static final Check check = new Check();
    private static final Twins twins = new Twins(check);

    public static void main(String[] args) {
        firesAboveW();
        firesInSessionOrder();
        inSyncEmitsNothing();
        retractsInAscendingStart();
        closedSessionsAreNotTouched();
        watermarkEventsAndDropsStay();
        earlierRecordsStay();
        neverRefused();
        withoutSessions();
        answersTheNumberOfRecords();
        check.end();
    }

    private static void firesAboveW() {
        check.sentence("early() fires with kind EARLY every session with end > W");
        EventWindowsX x = new EventWindowsX(10, 100);
        x.advance(100);
        x.addEvent(0, 91, 1);
        x.addEvent(1, 92, 2);
        x.addEvent(2, 1000000, 3);
        check.due("early()", x.early(), 3);
        check.record(x, 0, EARLY, 0, 91, 101, 1);
        check.record(x, 1, EARLY, 1, 92, 102, 2);
        check.record(x, 2, EARLY, 2, 1000000, 1000010, 3);
        check.counts(x, 3, 3, 3, 3, 0);
        check.pane(x, 0, 0, 91, 101, 1);
        check.pane(x, 1, 1, 92, 102, 2);
        check.pane(x, 2, 2, 1000000, 1000010, 3);
    }

    private static void firesInSessionOrder() {
        check.sentence("every session with end > W, in session order");
        EventWindowsX x = new EventWindowsX(1, 1000);
        for (int i = 0; i < 32; i++) {
            int place = i * 27 % 32;
            x.addEvent(place / 4, 700 - 100 * (place / 4) + place % 4, place);
        }
        check.due("early()", x.early(), 32);
        for (int i = 0; i < 32; i++) {
            int start = 700 - 100 * (i / 4) + i % 4;
            check.record(x, i, EARLY, i / 4, start, start + 1, i);
        }
    }

    private static void inSyncEmitsNothing() {
        check.sentence("A session in sync emits nothing: early");
        EventWindowsX x = new EventWindowsX(10, 100);
        x.addEvent(0, 100, 1);
        x.addEvent(1, 100, 2);
        check.due("early()", x.early(), 2);
        var before = Answers.of(x);
        check.due("early() again", x.early(), 0);
        check.same("early() again", before, Answers.of(x));
        x.addEvent(1, 100, 4);
        check.due("early() with one out of sync", x.early(), 2);
        check.record(x, 2, RETRACT, 1, 100, 110, 2);
        check.record(x, 3, EARLY, 1, 100, 110, 6);
        check.pane(x, 0, 0, 100, 110, 1);
    }

    private static void retractsInAscendingStart() {
        check.sentence("A session not in sync has its outstanding panes retracted in ascending start, followed by its EARLY record.");
        EventWindowsX x = new EventWindowsX(10, 100);
        for (int i = 0; i < 8; i++) {
            x.addEvent(4, 10 * (i * 3 % 8), i * 3 % 8);
            x.early();
        }
        for (int i = 0; i < 7; i++) {
            x.addEvent(4, 10 * i + 5, 0);
        }
        check.due("early()", x.early(), 9);
        for (int i = 0; i < 8; i++) {
            check.record(x, 8 + i, RETRACT, 4, 10 * i, 10 * i + 10, i);
        }
        check.record(x, 16, EARLY, 4, 0, 80, 28);
        check.counts(x, 15, 1, 1, 17, 0);
        check.pane(x, 0, 4, 0, 80, 28);
    }

    private static void closedSessionsAreNotTouched() {
        check.sentence("Sessions with end <= W are not touched.");
        EventWindowsX x = new EventWindowsX(10, 100);
        x.addEvent(0, 89, 1);
        x.addEvent(1, 90, 2);
        x.addEvent(2, 91, 4);
        check.due("advance(100)", x.advance(100), 2);
        check.due("early()", x.early(), 1);
        check.record(x, 0, ONTIME, 0, 89, 99, 1);
        check.record(x, 1, ONTIME, 1, 90, 100, 2);
        check.record(x, 2, EARLY, 2, 91, 101, 4);
        check.pane(x, 0, 0, 89, 99, 1);
        check.pane(x, 1, 1, 90, 100, 2);
        check.counts(x, 3, 3, 3, 3, 0);
        EventWindowsX closed = new EventWindowsX(10, 100);
        closed.addEvent(0, 90, 1);
        closed.advance(100);
        var before = Answers.of(closed);
        check.due("early() with closed sessions alone", closed.early(), 0);
        check.same("early() with closed sessions alone", before, Answers.of(closed));
    }

    private static void watermarkEventsAndDropsStay() {
        check.sentence("W, the stored events, the dropped count ... do not change.");
        for (States.State state : States.all()) {
            EventWindowsX x = state.make();
            var before = Answers.of(x);
            x.early();
            var after = Answers.of(x);
            before.keySet().removeIf(EarlyBoundaryTest::mayChange);
            after.keySet().removeIf(EarlyBoundaryTest::mayChange);
            check.isTrue("the sessions are among the answers", before.containsKey("sessionField(0, 1)"));
            check.same(state.name() + ", early()", before, after);
        }
    }

    // Records and panes are what early() is there to add.
    private static boolean mayChange(String call) {
        return call.startsWith("record") || call.startsWith("pane");
    }

    private static void earlierRecordsStay() {
        check.sentence("records already emitted do not change: early");
        for (States.State state : States.all()) {
            EventWindowsX x = state.make();
            for (int i = 0; i < 40; i++) {
                x.addEvent(i % 8, Math.min(1000000, x.watermark() + 3 * i), i);
                var before = Answers.readableRecords(x);
                x.early();
                var after = Answers.readableRecords(x);
                before.keySet().retainAll(after.keySet());
                after.keySet().retainAll(before.keySet());
                check.isTrue(state.name() + ": records after early() " + i, before.equals(after));
            }
        }
    }

    private static void neverRefused() {
        check.sentence("It is never refused.");
        for (States.State state : States.all()) {
            EventWindowsX x = state.make();
            int before = x.recordCount();
            int answer = x.early();
            check.isTrue(state.name() + ": early() answers " + answer, answer >= 0);
            check.due(state.name() + ": recordCount()", x.recordCount(), before + answer);
            for (int i = 0; i < x.sessionCount(); i++) {
                check.isTrue(state.name() + ": session " + i + " is in sync", Guarantees.inSync(x, i));
            }
        }
    }

    private static void withoutSessions() {
        check.sentence("When there are no sessions, the answer is 0.");
        int states = 0;
        for (States.State state : States.all()) {
            if (state.make().sessionCount() == 0) {
                states++;
                twins.unchanged(state, "early()", EventWindowsX::early, 0);
            }
        }
        check.isTrue("states without sessions: " + states, states >= 4);
    }

    private static void answersTheNumberOfRecords() {
        check.sentence("The answer is the number of records this call emitted, 0 or more: early");
        for (int sessions = 0; sessions <= 32; sessions++) {
            EventWindowsX x = new EventWindowsX(1, 0);
            for (int i = 0; i < sessions; i++) {
                x.addEvent(i % 8, 10 * i, 1);
            }
            check.due("early() over " + sessions, x.early(), sessions);
            check.due("recordCount()", x.recordCount(), sessions);
        }
        EventWindowsX x = new EventWindowsX(10, 0);
        for (int i = 0; i < 16; i++) {
            x.addEvent(i % 8, 100 * (i / 8), 1);
        }
        x.early();
        for (int i = 0; i < 16; i++) {
            x.addEvent(i % 8, 100 * (i / 8), 1);
        }
        check.due("early() with as many retractions", x.early(), 32);
        check.due("recordCount()", x.recordCount(), 48);
    }
}
