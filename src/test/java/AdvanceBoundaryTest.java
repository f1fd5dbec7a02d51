/** Promise 5: a test for each sentence that names a boundary. */
public final class AdvanceBoundaryTest {
    private static final int BAD = EventWindowsX.BAD;
    private static final int EARLY = EventWindowsX.EARLY;
    private static final int ONTIME = EventWindowsX.ONTIME;
    private static final int LATE = EventWindowsX.LATE;
    private static final int RETRACT = EventWindowsX.RETRACT;
    private static final int MIN = Integer.MIN_VALUE;
    private static final int MAX = Integer.MAX_VALUE;

    private static final Check check = new Check();
    private static final Twins twins = new Twins(check);

    public static void main(String[] args) {
        notAboveW();
        aboveTheGreatest();
        notAboveZeroOnAFreshObject();
        smallestStep();
        greatestStep();
        nothingAfterTheGreatest();
        setsW();
        firesAtTheEnd();
        firesInSessionOrder();
        inSyncEmitsNothing();
        retractsInAscendingStart();
        expiresAtTheLastMoment();
        expiresByTheSessionsEnd();
        expiresWithoutLatenessAtOnce();
        firesBeforeItExpires();
        expiresOneOfTwoNeighbours();
        expiresOneByOneWithTheNarrowestGap();
        expiresTheFirstMiddleAndLast();
        expiredEventsLeaveRoom();
        latePanesExpireToo();
        openSessionsAreNeitherFiredNorExpired();
        dropsGapAndLatenessStay();
        earlierRecordsStay();
        emptyAnswersZero();
        answersTheNumberOfRecords();
        check.end();
    }

    private static void notAboveW() {
        check.sentence("If w <= W ..., it answers BAD and nothing changes.");
        for (States.State state : States.all()) {
            int at = state.make().watermark();
            for (int w : new int[] {at, at - 1, at - 2, at / 2, 0, -1, -2100000, MIN + 1, MIN}) {
                twins.unchanged(state, "advance(" + w + ")", x -> x.advance(w), BAD);
            }
        }
    }

    private static void aboveTheGreatest() {
        check.sentence("If ... w > MAX_WATERMARK, it answers BAD and nothing changes.");
        for (States.State state : States.all()) {
            for (int w : new int[] {2100001, 2100002, 2101000, 4200000, MAX - 1, MAX}) {
                twins.unchanged(state, "advance(" + w + ")", x -> x.advance(w), BAD);
            }
        }
    }

    private static void notAboveZeroOnAFreshObject() {
        check.sentence("Since W starts at 0, any w <= 0 is refused on a fresh object.");
        for (int w : new int[] {0, -1, -2, -1000, MIN}) {
            EventWindowsX x = new EventWindowsX(10, 50);
            var before = Answers.of(x);
            check.due("advance(" + w + ")", x.advance(w), BAD);
            check.same("advance(" + w + ")", before, Answers.of(x));
        }
    }

    private static void smallestStep() {
        check.sentence("If w <= W: a step of 1 is taken");
        EventWindowsX x = new EventWindowsX(10, 50);
        for (int w = 1; w <= 200; w++) {
            check.due("advance(" + w + ")", x.advance(w), 0);
            check.due("watermark()", x.watermark(), w);
            check.due("advance(" + w + ") again", x.advance(w), BAD);
        }
    }

    private static void greatestStep() {
        check.sentence("w > MAX_WATERMARK: MAX_WATERMARK itself is taken");
        EventWindowsX x = new EventWindowsX(10, 50);
        x.addEvent(0, 1000000, 1);
        check.due("advance(2100000)", x.advance(2100000), 1);
        check.due("watermark()", x.watermark(), 2100000);
        check.counts(x, 0, 0, 0, 1, 0);
        EventWindowsX almost = new EventWindowsX(10, 50);
        check.due("advance(2099999)", almost.advance(2099999), 0);
        check.due("advance(2100000)", almost.advance(2100000), 0);
    }

    private static void nothingAfterTheGreatest() {
        check.sentence("w <= W or w > MAX_WATERMARK: every w is refused at the greatest W");
        EventWindowsX x = new EventWindowsX(10, 50);
        x.advance(2100000);
        for (int w : new int[] {MIN, -1, 0, 1, 2099999, 2100000, 2100001, MAX}) {
            check.due("advance(" + w + ")", x.advance(w), BAD);
            check.due("watermark()", x.watermark(), 2100000);
        }
    }

    private static void setsW() {
        check.sentence("W = w.");
        for (int w : new int[] {1, 2, 1000, 65536, 1000000, 1000001, 2099999, 2100000}) {
            EventWindowsX x = new EventWindowsX(10, 50);
            check.due("advance(" + w + ")", x.advance(w), 0);
            check.due("watermark()", x.watermark(), w);
        }
    }

    private static void firesAtTheEnd() {
        check.sentence("Every session with end <= W is fired with kind ONTIME");
        EventWindowsX x = new EventWindowsX(10, 100);
        x.addEvent(0, 91, 1);
        x.addEvent(1, 90, 2);
        x.addEvent(2, 89, 3);
        check.due("advance(100)", x.advance(100), 2);
        check.record(x, 0, ONTIME, 1, 90, 100, 2);
        check.record(x, 1, ONTIME, 2, 89, 99, 3);
        check.due("advance(101)", x.advance(101), 1);
        check.record(x, 2, ONTIME, 0, 91, 101, 1);
        check.counts(x, 3, 3, 3, 3, 0);
    }

    private static void firesInSessionOrder() {
        check.sentence("fired with kind ONTIME, in session order");
        EventWindowsX x = new EventWindowsX(1, 1000);
        for (int i = 0; i < 32; i++) {
            int place = i * 21 % 32;
            x.addEvent(place / 4, 700 - 100 * (place / 4) + place % 4, place);
        }
        check.due("advance(900)", x.advance(900), 32);
        for (int i = 0; i < 32; i++) {
            int start = 700 - 100 * (i / 4) + i % 4;
            check.record(x, i, ONTIME, i / 4, start, start + 1, i);
        }
    }

    private static void inSyncEmitsNothing() {
        check.sentence("A session already in sync emits nothing: advance");
        EventWindowsX x = new EventWindowsX(10, 100);
        x.addEvent(0, 100, 1);
        x.addEvent(1, 100, 2);
        x.early();
        x.addEvent(1, 100, 3);
        check.due("advance(110)", x.advance(110), 2);
        check.record(x, 2, RETRACT, 1, 100, 110, 2);
        check.record(x, 3, ONTIME, 1, 100, 110, 5);
        check.pane(x, 0, 0, 100, 110, 1);
        check.due("advance(111), all in sync", x.advance(111), 0);
        check.counts(x, 3, 2, 2, 4, 0);
    }

    private static void retractsInAscendingStart() {
        check.sentence("A session not in sync has its outstanding panes retracted in ascending start, followed by its ONTIME record.");
        EventWindowsX x = new EventWindowsX(10, 100);
        for (int key : new int[] {6, 3}) {
            x.addEvent(key, 120, 3);
            x.early();
            x.addEvent(key, 110, 2);
            x.early();
            x.addEvent(key, 100, 1);
            x.early();
        }
        for (int key : new int[] {6, 3}) {
            x.addEvent(key, 105, 4);
            x.addEvent(key, 115, 8);
        }
        check.due("advance(130)", x.advance(130), 8);
        for (int i = 0; i < 2; i++) {
            int key = 3 + 3 * i;
            check.record(x, 6 + 4 * i, RETRACT, key, 100, 110, 1);
            check.record(x, 7 + 4 * i, RETRACT, key, 110, 120, 2);
            check.record(x, 8 + 4 * i, RETRACT, key, 120, 130, 3);
            check.record(x, 9 + 4 * i, ONTIME, key, 100, 130, 18);
            check.pane(x, i, key, 100, 130, 18);
        }
        check.counts(x, 10, 2, 2, 14, 0);
    }

    private static void expiresAtTheLastMoment() {
        check.sentence("Every session with end + lateness <= W is expired.");
        for (int lateness : new int[] {1, 2, 50, 1000}) {
            EventWindowsX x = new EventWindowsX(10, lateness);
            x.addEvent(0, 100, 1);
            check.due("advance to one before", x.advance(110 + lateness - 1), 1);
            check.counts(x, 1, 1, 1, 1, 0);
            check.due("advance to end + lateness", x.advance(110 + lateness), 0);
            check.counts(x, 0, 0, 0, 1, 0);
        }
    }

    private static void expiresByTheSessionsEnd() {
        check.sentence("Every session with end + lateness <= W is expired: the session as one, by its end alone");
        EventWindowsX x = new EventWindowsX(10, 20);
        for (int i = 0; i <= 10; i++) {
            x.addEvent(0, 9 * i, 1);
        }
        check.due("advance(119)", x.advance(119), 1);
        check.counts(x, 11, 1, 1, 1, 0);
        check.session(x, 0, 0, 0, 100, 11, 11);
        check.due("advance(120)", x.advance(120), 0);
        check.counts(x, 0, 0, 0, 1, 0);
    }

    private static void expiresWithoutLatenessAtOnce() {
        check.sentence("Every session with end + lateness <= W is expired: lateness 0");
        EventWindowsX x = new EventWindowsX(10, 0);
        x.addEvent(0, 100, 1);
        check.due("advance(109)", x.advance(109), 0);
        check.counts(x, 1, 1, 0, 0, 0);
        check.due("advance(110)", x.advance(110), 1);
        check.record(x, 0, ONTIME, 0, 100, 110, 1);
        check.counts(x, 0, 0, 0, 1, 0);
    }

    private static void firesBeforeItExpires() {
        check.sentence("Its events leave the stored events and its outstanding panes are removed, without any record: fired before");
        EventWindowsX x = new EventWindowsX(10, 50);
        x.addEvent(0, 100, 1);
        x.early();
        x.addEvent(0, 100, 2);
        x.addEvent(1, 100, 4);
        check.due("advance(2100000)", x.advance(2100000), 3);
        check.record(x, 1, RETRACT, 0, 100, 110, 1);
        check.record(x, 2, ONTIME, 0, 100, 110, 3);
        check.record(x, 3, ONTIME, 1, 100, 110, 4);
        check.counts(x, 0, 0, 0, 4, 0);
        check.session(x, 0, -1, -1, -1, -1, -1);
        check.pane(x, 0, -1, -1, -1, -1);
    }

    private static void expiresOneOfTwoNeighbours() {
        check.sentence("its outstanding panes are removed: not those of the session that begins where it ends");
        EventWindowsX x = new EventWindowsX(10, 50);
        x.addEvent(0, 100, 1);
        x.addEvent(0, 110, 2);
        x.addEvent(1, 101, 4);
        check.due("advance(160)", x.advance(160), 3);
        check.counts(x, 2, 2, 2, 3, 0);
        check.session(x, 0, 0, 110, 120, 2, 1);
        check.session(x, 1, 1, 101, 111, 4, 1);
        check.pane(x, 0, 0, 110, 120, 2);
        check.pane(x, 1, 1, 101, 111, 4);
        check.due("advance(161)", x.advance(161), 0);
        check.counts(x, 1, 1, 1, 3, 0);
        check.pane(x, 0, 0, 110, 120, 2);
    }

    private static void expiresOneByOneWithTheNarrowestGap() {
        check.sentence("its outstanding panes are removed: not those of its neighbours, gap 1");
        for (int lateness : new int[] {0, 1, 5}) {
            EventWindowsX x = new EventWindowsX(1, lateness);
            for (int time = 0; time < 32; time++) {
                x.addEvent(6, time, time);
            }
            check.due("early()", x.early(), 32);
            for (int gone = 0; gone < 32; gone++) {
                check.due("paneCount()", x.paneCount(), 32 - gone);
                for (int i = gone; i < 32; i++) {
                    check.pane(x, i - gone, 6, i, i + 1, i);
                }
                check.due("advance", x.advance(gone + 1 + lateness), 0);
            }
            check.counts(x, 0, 0, 0, 32, 0);
        }
    }

    private static void expiresTheFirstMiddleAndLast() {
        check.sentence("Every session with end + lateness <= W is expired: wherever it stands in session order");
        for (int old = 0; old < 32; old++) {
            EventWindowsX x = new EventWindowsX(1, 0);
            for (int i = 0; i < 32; i++) {
                int time = (i & old) != 0 ? 5 : 50 + i;
                x.addEvent(i / 4, time + i % 4 * 2, i);
            }
            x.early();
            x.advance(20);
            int left = 0;
            for (int i = 0; i < 32; i++) {
                if ((i & old) == 0) {
                    int start = 50 + i + i % 4 * 2;
                    check.session(x, left, i / 4, start, start + 1, i, 1);
                    check.pane(x, left, i / 4, start, start + 1, i);
                    left++;
                }
            }
            check.counts(x, left, left, left, 32, 0);
        }
    }

    private static void expiredEventsLeaveRoom() {
        check.sentence("Its events leave the stored events");
        EventWindowsX x = new EventWindowsX(10, 50);
        for (int round = 0; round < 20; round++) {
            for (int i = 0; i < 32; i++) {
                check.due("addEvent", x.addEvent(i % 8, 1000 * round + 100 * (i / 8), i), 0);
            }
            check.due("one too many", x.addEvent(0, 1000 * round, 0), EventWindowsX.FULL);
            check.due("advance", x.advance(1000 * round + 360), 32);
            check.due("storedEvents()", x.storedEvents(), 0);
            check.due("paneCount()", x.paneCount(), 0);
            check.due("recordCount()", x.recordCount(), 32 * (round + 1));
        }
    }

    private static void latePanesExpireToo() {
        check.sentence("its outstanding panes are removed, without any record: a late pane");
        EventWindowsX x = new EventWindowsX(10, 50);
        x.advance(100);
        check.due("addEvent(4, 50, 9)", x.addEvent(4, 50, 9), 1);
        check.record(x, 0, LATE, 4, 50, 60, 9);
        check.due("advance(109)", x.advance(109), 0);
        check.counts(x, 1, 1, 1, 1, 0);
        check.due("advance(110)", x.advance(110), 0);
        check.counts(x, 0, 0, 0, 1, 0);
    }

    private static void openSessionsAreNeitherFiredNorExpired() {
        check.sentence("Sessions with end > W are neither fired nor expired.");
        EventWindowsX x = new EventWindowsX(10, 0);
        x.addEvent(0, 91, 1);
        x.addEvent(1, 91, 2);
        x.early();
        x.addEvent(1, 91, 4);
        x.addEvent(2, 91, 8);
        check.due("advance(100)", x.advance(100), 0);
        check.counts(x, 4, 3, 2, 2, 0);
        check.session(x, 0, 0, 91, 101, 1, 1);
        check.session(x, 1, 1, 91, 101, 6, 2);
        check.session(x, 2, 2, 91, 101, 8, 1);
        check.pane(x, 0, 0, 91, 101, 1);
        check.pane(x, 1, 1, 91, 101, 2);
        check.record(x, 1, EARLY, 1, 91, 101, 2);
    }

    private static void dropsGapAndLatenessStay() {
        check.sentence("The dropped count, the clamped gap and lateness ... do not change.");
        for (States.State state : States.all()) {
            EventWindowsX x = state.make();
            int drops = x.droppedCount();
            for (int w = x.watermark() + 1; w <= 2100000; w += 1 + w / 3) {
                x.advance(w);
                check.due(state.name() + ": droppedCount()", x.droppedCount(), drops);
                check.due(state.name() + ": gap()", x.gap(), state.gap());
                check.due(state.name() + ": lateness()", x.lateness(), state.lateness());
            }
        }
    }

    private static void earlierRecordsStay() {
        check.sentence("records already emitted do not change: advance");
        for (States.State state : States.all()) {
            EventWindowsX x = state.make();
            for (int w = x.watermark() + 1; w <= 2100000; w += 1 + w / 50) {
                var before = Answers.readableRecords(x);
                x.advance(w);
                var after = Answers.readableRecords(x);
                before.keySet().retainAll(after.keySet());
                after.keySet().retainAll(before.keySet());
                check.isTrue(state.name() + ": records after advance(" + w + ")", before.equals(after));
            }
        }
    }

    private static void emptyAnswersZero() {
        check.sentence("The answer is the number of records this call emitted, 0 or more: no session at all");
        EventWindowsX x = new EventWindowsX(10, 50);
        check.due("advance(1)", x.advance(1), 0);
        check.due("advance(1000)", x.advance(1000), 0);
        check.counts(x, 0, 0, 0, 0, 0);
    }

    private static void answersTheNumberOfRecords() {
        check.sentence("The answer is the number of records this call emitted, 0 or more: advance");
        for (int fired = 0; fired <= 32; fired++) {
            EventWindowsX x = new EventWindowsX(1, 0);
            for (int i = 0; i < fired; i++) {
                x.addEvent(i % 8, 10 * i, 1);
            }
            check.due("advance(1000) over " + fired, x.advance(1000), fired);
            check.due("recordCount()", x.recordCount(), fired);
        }
    }
}
