import java.util.ArrayList;
import java.util.List;
import java.util.function.ToIntFunction;

/** Promises 7 to 12: a test for each sentence that names a boundary. */
public final class ReadersBoundaryTest {
    private static final int BAD = EventWindowsX.BAD;
    private static final int DROPPED = EventWindowsX.DROPPED;
    private static final int FULL = EventWindowsX.FULL;
    private static final int EARLY = EventWindowsX.EARLY;
    private static final int ONTIME = EventWindowsX.ONTIME;
    private static final int LATE = EventWindowsX.LATE;
    private static final int RETRACT = EventWindowsX.RETRACT;
    private static final int MIN = Integer.MIN_VALUE;
    private static final int MAX = Integer.MAX_VALUE;
    private static final int[] NO_FIELDS = {MIN, MIN + 1, -5, -4, -3, -2, -1, 6, 7, 8, 16, 255, 256, 65536, MAX - 1, MAX};

    private static final Check check = new Check();
    private static final Twins twins = new Twins(check);

    public static void main(String[] args) {
        watermarkIsZeroAtTheStart();
        watermarkNeverDecreases();
        watermarkIsAtMostTheGreatest();
        storedEventsStaysWithinCapacity();
        droppedCountsDroppedCallsAlone();
        recordCountCountsFromConstruction();
        recordsBeforeTheFirst();
        recordsWithANegativeNumber();
        recordsNotYetEmitted();
        recordsOlderThanTheLog();
        recordsAtEitherEndOfTheLog();
        recordsOverALongRun();
        recordsHaveFiveFields();
        recordsHaveNoOtherField();
        unreadableRecordsHaveNoField();
        recordOfTheValueMinusOne();
        recordsOfEveryKind();
        retractRepeatsThePaneItRemoves();
        sessionsOutside();
        sessionsHaveFiveFields();
        sessionsHaveNoOtherField();
        sessionOfTheSumMinusOne();
        panesAreAtMostThirtyTwo();
        panesOutside();
        panesHaveFourFields();
        panesHaveNoOtherField();
        paneOfTheValueMinusOne();
        countsChangeNothing();
        fieldsChangeNothing();
        readingAllTheTimeChangesNothing();
        check.end();
    }

    private static void watermarkIsZeroAtTheStart() {
        check.sentence("watermark() answers W. It is 0 at the start");
        EventWindowsX x = new EventWindowsX(10, 50);
        check.due("watermark()", x.watermark(), 0);
        x.addEvent(0, 1000000, 1);
        x.early();
        check.due("watermark() before the first advance", x.watermark(), 0);
    }

    private static void watermarkNeverDecreases() {
        check.sentence("watermark() ... never decreases");
        EventWindowsX x = new EventWindowsX(10, 50);
        x.advance(500);
        x.advance(499);
        x.advance(MIN);
        x.addEvent(0, 450, 1);
        x.addEvent(0, 0, 1);
        x.addEvent(0, 1000000, 1);
        x.early();
        check.due("watermark()", x.watermark(), 500);
    }

    private static void watermarkIsAtMostTheGreatest() {
        check.sentence("watermark() ... is at most MAX_WATERMARK");
        EventWindowsX x = new EventWindowsX(10, 50);
        for (int w : new int[] {2100001, MAX}) {
            x.advance(w);
            check.due("watermark() after advance(" + w + ")", x.watermark(), 0);
        }
        x.advance(2100000);
        check.due("watermark()", x.watermark(), 2100000);
        x.advance(2100001);
        check.due("watermark()", x.watermark(), 2100000);
    }

    private static void storedEventsStaysWithinCapacity() {
        check.sentence("storedEvents() answers the number of stored events, in 0..CAPACITY.");
        EventWindowsX x = new EventWindowsX(10, 0);
        check.due("storedEvents()", x.storedEvents(), 0);
        for (int i = 1; i <= 40; i++) {
            x.addEvent(i % 8, 100, 1);
            check.due("storedEvents()", x.storedEvents(), Math.min(i, 32));
        }
        x.addEvent(-1, 100, 1);
        x.early();
        x.advance(109);
        check.due("storedEvents()", x.storedEvents(), 32);
        x.advance(110);
        check.due("storedEvents()", x.storedEvents(), 0);
        x.addEvent(0, 109, 1);
        check.due("storedEvents() after a drop", x.storedEvents(), 0);
        x.advance(120);
        check.due("storedEvents() after an advance over nothing", x.storedEvents(), 0);
    }

    private static void droppedCountsDroppedCallsAlone() {
        check.sentence("droppedCount() answers the number of addEvent calls that answered DROPPED.");
        EventWindowsX x = new EventWindowsX(10, 0);
        check.due("droppedCount()", x.droppedCount(), 0);
        x.advance(100);
        check.due("bad", x.addEvent(0, -1, 0), BAD);
        check.due("bad", x.advance(100), BAD);
        for (int i = 0; i < 33; i++) {
            check.due("addEvent", x.addEvent(0, 100, 0), i < 32 ? 0 : FULL);
        }
        check.due("droppedCount()", x.droppedCount(), 0);
        check.due("addEvent(0, 99, 0)", x.addEvent(0, 99, 0), DROPPED);
        check.due("droppedCount()", x.droppedCount(), 1);
        x.advance(110);
        x.early();
        check.due("droppedCount() after expiry", x.droppedCount(), 1);
        check.due("addEvent(0, 109, 0)", x.addEvent(0, 109, 0), DROPPED);
        check.due("addEvent(0, 109, 0)", x.addEvent(0, 109, 0), DROPPED);
        check.due("droppedCount()", x.droppedCount(), 3);
    }

    private static void recordCountCountsFromConstruction() {
        check.sentence("recordCount() answers the number of records emitted since construction.");
        EventWindowsX x = new EventWindowsX(1, 0);
        check.due("recordCount()", x.recordCount(), 0);
        int emitted = 0;
        for (int w = 0; w < 300; w++) {
            x.addEvent(w % 8, w, 1);
            emitted += x.early();
            emitted += x.advance(w + 1);
            check.due("recordCount()", x.recordCount(), emitted);
            check.due("records emitted", emitted, w + 1);
        }
    }

    private static void recordsBeforeTheFirst() {
        check.sentence("seq is unreadable: negative, not yet emitted: no record at all");
        EventWindowsX x = new EventWindowsX(10, 0);
        for (int seq : new int[] {MIN, -65, -64, -63, -1, 0, 1, 63, 64, 65, MAX}) {
            check.record(x, seq, -1, -1, -1, -1, -1);
        }
        x.addEvent(0, 100, 9);
        for (int seq : new int[] {MIN, -65, -64, -63, -1, 0, 1, 63, 64, 65, MAX}) {
            check.record(x, seq, -1, -1, -1, -1, -1);
        }
    }

    // One record for each number, told apart by its key, start and value.
    private static EventWindowsX withRecords(int count) {
        EventWindowsX x = new EventWindowsX(1, 0);
        for (int i = 0; i < count; i++) {
            x.addEvent(i % 8, 3 * i, i % 1000 + 1);
            x.advance(3 * i + 2);
        }
        check.due("recordCount()", x.recordCount(), count);
        return x;
    }

    private static void numbered(EventWindowsX x, int seq) {
        check.record(x, seq, ONTIME, seq % 8, 3 * seq, 3 * seq + 1, seq % 1000 + 1);
    }

    private static void recordsWithANegativeNumber() {
        check.sentence("seq is unreadable: negative");
        for (int count : new int[] {1, 10, 63, 64, 65, 200}) {
            EventWindowsX x = withRecords(count);
            for (int seq : new int[] {-1, -2, -63, -64, -65, -128, -count, MIN + count, MIN + 64, MIN + 1, MIN}) {
                check.record(x, seq, -1, -1, -1, -1, -1);
            }
        }
    }

    private static void recordsNotYetEmitted() {
        check.sentence("seq is unreadable: not yet emitted");
        EventWindowsX x = new EventWindowsX(1, 0);
        for (int i = 0; i < 200; i++) {
            for (int seq : new int[] {i, i + 1, i + 63, i + 64, i + 65, i + 128, MAX - 1, MAX}) {
                check.record(x, seq, -1, -1, -1, -1, -1);
            }
            x.addEvent(i % 8, 3 * i, i % 1000 + 1);
            x.advance(3 * i + 2);
            numbered(x, i);
        }
    }

    private static void recordsOlderThanTheLog() {
        check.sentence("seq is unreadable: older than the LOG most recent records");
        EventWindowsX x = new EventWindowsX(1, 0);
        for (int i = 0; i < 200; i++) {
            x.addEvent(i % 8, 3 * i, i % 1000 + 1);
            x.advance(3 * i + 2);
            for (int seq = 0; seq <= i - 64; seq++) {
                check.record(x, seq, -1, -1, -1, -1, -1);
            }
            numbered(x, Math.max(0, i - 63));
        }
    }

    private static void recordsAtEitherEndOfTheLog() {
        check.sentence("seq is readable if and only if 0 <= seq < recordCount() and seq >= recordCount() - LOG.");
        for (int count : new int[] {1, 2, 63, 64, 65, 66, 127, 128, 129, 130, 191, 192, 193, 1000}) {
            EventWindowsX x = withRecords(count);
            for (int seq = -70; seq < count + 70; seq++) {
                if (seq >= 0 && seq < count && seq >= count - 64) {
                    numbered(x, seq);
                } else {
                    check.record(x, seq, -1, -1, -1, -1, -1);
                }
            }
            for (int seq : new int[] {MIN, MIN + 1, MIN + 63, MIN + 64, MIN + count, -65536, 65536, MAX - 64, MAX - 1, MAX}) {
                check.record(x, seq, -1, -1, -1, -1, -1);
            }
        }
    }

    private static void recordsOverALongRun() {
        check.sentence("Only the LOG (64) most recent can be read: a hundred thousand records");
        EventWindowsX x = new EventWindowsX(1, 0);
        for (int i = 0; i < 100000; i++) {
            x.addEvent(i % 8, 3 * i, i % 1000 + 1);
            x.advance(3 * i + 2);
            if (i % 1013 == 0 || i == 99999) {
                for (int seq = Math.max(0, i - 63); seq <= i; seq++) {
                    numbered(x, seq);
                }
                check.record(x, i - 64, -1, -1, -1, -1, -1);
                check.record(x, i + 1, -1, -1, -1, -1, -1);
            }
        }
    }

    private static void recordsHaveFiveFields() {
        check.sentence("The valid fields are: F_KIND, F_KEY, F_START, F_END, F_VALUE.");
        EventWindowsX x = new EventWindowsX(10, 0);
        x.addEvent(7, 1000000, 1000);
        x.addEvent(0, 0, -1000);
        x.early();
        check.record(x, 0, EARLY, 0, 0, 10, -1000);
        check.record(x, 1, EARLY, 7, 1000000, 1000010, 1000);
    }

    private static void recordsHaveNoOtherField() {
        check.sentence("It answers -1 in these cases: field is any other value, including F_EVENTS.");
        for (int count : new int[] {1, 64, 100}) {
            EventWindowsX x = withRecords(count);
            for (int seq = Math.max(0, count - 64); seq < count; seq++) {
                check.due("recordField(" + seq + ", F_EVENTS)", x.recordField(seq, EventWindowsX.F_EVENTS), -1);
                for (int field : NO_FIELDS) {
                    check.due("recordField(" + seq + ", " + field + ")", x.recordField(seq, field), -1);
                }
            }
        }
    }

    private static void unreadableRecordsHaveNoField() {
        check.sentence("It answers -1 in these cases: neither seq nor field will do");
        EventWindowsX x = withRecords(100);
        for (int seq : new int[] {MIN, -1, 35, 100, MAX}) {
            check.due("recordField(" + seq + ", F_EVENTS)", x.recordField(seq, EventWindowsX.F_EVENTS), -1);
            for (int field : NO_FIELDS) {
                check.due("recordField(" + seq + ", " + field + ")", x.recordField(seq, field), -1);
            }
        }
    }

    private static EventWindowsX minusOne() {
        EventWindowsX x = new EventWindowsX(10, 50);
        x.addEvent(3, 100, 4);
        x.addEvent(3, 100, -5);
        x.early();
        return x;
    }

    private static void recordOfTheValueMinusOne() {
        check.sentence("A record's value may itself legitimately be -1.");
        EventWindowsX x = minusOne();
        check.record(x, 0, EARLY, 3, 100, 110, -1);
        x.addEvent(3, 100, 1);
        x.early();
        check.record(x, 1, RETRACT, 3, 100, 110, -1);
        check.record(x, 2, EARLY, 3, 100, 110, 0);
    }

    private static void recordsOfEveryKind() {
        check.sentence("F_KIND, giving EARLY, ONTIME, LATE or RETRACT");
        EventWindowsX x = new EventWindowsX(10, 50);
        x.addEvent(0, 100, 1);
        x.early();
        x.addEvent(0, 100, 2);
        x.advance(110);
        x.addEvent(1, 100, 4);
        check.due("recordCount()", x.recordCount(), 4);
        check.due("recordField(0, F_KIND)", x.recordField(0, 0), 1);
        check.due("recordField(1, F_KIND)", x.recordField(1, 0), 4);
        check.due("recordField(2, F_KIND)", x.recordField(2, 0), 2);
        check.due("recordField(3, F_KIND)", x.recordField(3, 0), 3);
        check.record(x, 3, LATE, 1, 100, 110, 4);
    }

    private static void retractRepeatsThePaneItRemoves() {
        check.sentence("For a RETRACT record, the key, start, end and value are those of the pane it removes.");
        EventWindowsX x = new EventWindowsX(10, 50);
        x.addEvent(6, 100, 7);
        x.early();
        x.addEvent(6, 95, 1);
        x.addEvent(6, 104, 2);
        check.pane(x, 0, 6, 100, 110, 7);
        check.due("early()", x.early(), 2);
        check.record(x, 1, RETRACT, 6, 100, 110, 7);
        check.record(x, 2, EARLY, 6, 95, 114, 10);
    }

    private static EventWindowsX withSessions(int count) {
        EventWindowsX x = new EventWindowsX(10, 50);
        for (int i = count - 1; i >= 0; i--) {
            x.addEvent(i / 4, 100 + 10 * i, i + 1);
        }
        return x;
    }

    private static void sessionsOutside() {
        check.sentence("It answers -1 if i is outside 0..sessionCount()-1");
        for (int count = 0; count <= 32; count++) {
            EventWindowsX x = withSessions(count);
            check.due("sessionCount()", x.sessionCount(), count);
            for (int i = 0; i < count; i++) {
                check.session(x, i, i / 4, 100 + 10 * i, 110 + 10 * i, i + 1, 1);
            }
            for (int i : new int[] {MIN, MIN + 1, -33, -32, -1, count, count + 1, 32, 33, 64, 256, 65536, MAX - 1, MAX}) {
                check.session(x, i, -1, -1, -1, -1, -1);
            }
        }
    }

    private static void sessionsHaveFiveFields() {
        check.sentence("The valid fields are: F_KEY, F_START, F_END, F_VALUE, giving the sum, F_EVENTS, giving the number of events.");
        EventWindowsX x = new EventWindowsX(10, 50);
        x.addEvent(5, 104, 20);
        x.addEvent(5, 100, 300);
        x.addEvent(5, 109, -7);
        check.due("sessionCount()", x.sessionCount(), 1);
        check.session(x, 0, 5, 100, 119, 313, 3);
    }

    private static void sessionsHaveNoOtherField() {
        check.sentence("It answers -1 if ... field is any other value, including F_KIND.");
        for (int count : new int[] {0, 1, 32}) {
            EventWindowsX x = withSessions(count);
            x.early();
            for (int i = -1; i <= count; i++) {
                check.due("sessionField(" + i + ", F_KIND)", x.sessionField(i, EventWindowsX.F_KIND), -1);
                for (int field : NO_FIELDS) {
                    check.due("sessionField(" + i + ", " + field + ")", x.sessionField(i, field), -1);
                }
            }
        }
    }

    private static void sessionOfTheSumMinusOne() {
        check.sentence("A session's sum may itself be -1.");
        check.session(minusOne(), 0, 3, 100, 110, -1, 2);
    }

    private static void panesAreAtMostThirtyTwo() {
        check.sentence("paneCount() answers the number of outstanding panes, at most 32.");
        EventWindowsX x = withSessions(32);
        check.due("paneCount()", x.paneCount(), 0);
        check.due("early()", x.early(), 32);
        check.due("paneCount()", x.paneCount(), 32);
        x.addEvent(0, 1000, 1);
        x.early();
        x.advance(250);
        check.due("paneCount()", x.paneCount(), 22);
    }

    private static void panesOutside() {
        check.sentence("It answers -1 if i is outside 0..paneCount()-1");
        for (int count = 0; count <= 32; count++) {
            EventWindowsX x = withSessions(count);
            x.early();
            check.due("paneCount()", x.paneCount(), count);
            for (int i = 0; i < count; i++) {
                check.pane(x, i, i / 4, 100 + 10 * i, 110 + 10 * i, i + 1);
            }
            for (int i : new int[] {MIN, MIN + 1, -33, -32, -1, count, count + 1, 32, 33, 64, 256, 65536, MAX - 1, MAX}) {
                check.pane(x, i, -1, -1, -1, -1);
            }
        }
    }

    private static void panesHaveFourFields() {
        check.sentence("The valid fields are: F_KEY, F_START, F_END, F_VALUE.");
        EventWindowsX x = new EventWindowsX(10, 50);
        x.addEvent(5, 104, 20);
        x.addEvent(5, 100, 300);
        x.addEvent(5, 109, -7);
        x.early();
        check.due("paneCount()", x.paneCount(), 1);
        check.pane(x, 0, 5, 100, 119, 313);
    }

    private static void panesHaveNoOtherField() {
        check.sentence("It answers -1 if ... field is any other value, including F_KIND and F_EVENTS.");
        for (int count : new int[] {0, 1, 32}) {
            EventWindowsX x = withSessions(count);
            x.early();
            for (int i = -1; i <= count; i++) {
                check.due("paneField(" + i + ", F_KIND)", x.paneField(i, EventWindowsX.F_KIND), -1);
                check.due("paneField(" + i + ", F_EVENTS)", x.paneField(i, EventWindowsX.F_EVENTS), -1);
                for (int field : NO_FIELDS) {
                    check.due("paneField(" + i + ", " + field + ")", x.paneField(i, field), -1);
                }
            }
        }
    }

    private static void paneOfTheValueMinusOne() {
        check.sentence("A pane's value may itself be -1.");
        check.pane(minusOne(), 0, 3, 100, 110, -1);
    }

    private static void changesNothing(States.State state, String call, ToIntFunction<EventWindowsX> made) {
        int due = made.applyAsInt(state.make());
        twins.unchanged(state, call, made, due);
    }

    private static void countsChangeNothing() {
        check.sentence("watermark(), storedEvents(), droppedCount(), recordCount(), sessionCount(), paneCount(): It changes nothing.");
        for (States.State state : States.all()) {
            changesNothing(state, "watermark()", EventWindowsX::watermark);
            changesNothing(state, "storedEvents()", EventWindowsX::storedEvents);
            changesNothing(state, "droppedCount()", EventWindowsX::droppedCount);
            changesNothing(state, "recordCount()", EventWindowsX::recordCount);
            changesNothing(state, "sessionCount()", EventWindowsX::sessionCount);
            changesNothing(state, "paneCount()", EventWindowsX::paneCount);
        }
    }

    private static void fieldsChangeNothing() {
        check.sentence("recordField, sessionField, paneField: The call changes nothing.");
        for (States.State state : States.all()) {
            EventWindowsX look = state.make();
            for (int field : new int[] {-1, 0, 1, 2, 3, 4, 5, 6}) {
                for (int from : new int[] {-65, -64, -1, 0}) {
                    int seq = look.recordCount() + from;
                    changesNothing(state, "recordField(" + seq + ", " + field + ")", x -> x.recordField(seq, field));
                }
                for (int i : new int[] {-1, 0, look.sessionCount() - 1, look.sessionCount(), MAX}) {
                    changesNothing(state, "sessionField(" + i + ", " + field + ")", x -> x.sessionField(i, field));
                }
                for (int i : new int[] {-1, 0, look.paneCount() - 1, look.paneCount(), MAX}) {
                    changesNothing(state, "paneField(" + i + ", " + field + ")", x -> x.paneField(i, field));
                }
            }
        }
    }

    private static void readingAllTheTimeChangesNothing() {
        check.sentence("It changes nothing: an object that is read after every call answers as one that never is");
        EventWindowsX read = new EventWindowsX(10, 60);
        EventWindowsX left = new EventWindowsX(10, 60);
        List<Integer> answers = new ArrayList<>();
        for (int step = 0; step < 400; step++) {
            answers.clear();
            for (EventWindowsX x : List.of(read, left)) {
                answers.add(x.addEvent(step * 5 % 8, Math.max(0, 4 * step - step * 7 % 50), step % 9 - 4));
                answers.add(step % 3 == 0 ? x.early() : 0);
                answers.add(step % 2 == 0 ? x.advance(4 * step) : 0);
            }
            check.isTrue("the same answers in step " + step, answers.subList(0, 3).equals(answers.subList(3, 6)));
            Answers.of(read);
        }
        check.same("after 400 steps", Answers.of(left), Answers.of(read));
    }
}
