/** Promises 1 to 3: a test for each sentence that names a boundary. */
public final class ConstructionBoundaryTest {
    private static final int DROPPED = EventWindowsX.DROPPED;
    private static final int MIN = Integer.MIN_VALUE;
    private static final int MAX = Integer.MAX_VALUE;
    private static final int[] FAR = {
        MIN, MIN + 1, -2000000, -65536, -1001, -1000, -999, -256, -2, -1, 0, 1, 2, 255, 256, 999, 1000,
        1001, 1002, 2000, 65535, 65536, 65537, 2100000, MAX - 1000, MAX - 1, MAX,
    };

    private static final Check check = new Check();
    private static final Twins twins = new Twins(check);

    public static void main(String[] args) {
        everyPairIsAccepted();
        gapBelowOneBecomesOne();
        gapAboveTheLimitBecomesTheLimit();
        gapInsideIsKept();
        latenessBelowZeroBecomesZero();
        latenessAboveTheLimitBecomesTheLimit();
        latenessInsideIsKept();
        theClampedGapLinks();
        theClampedLatenessAdmits();
        theClampedLatenessExpires();
        startsAtZero();
        startsWithoutEventsSessionsAndPanes();
        startsWithoutRecords();
        startsWithoutDrops();
        gapAndLatenessNeverChange();
        askingForGapChangesNothing();
        askingForLatenessChangesNothing();
        check.end();
    }

    private static int clamp(int number, int least, int greatest) {
        return Math.max(least, Math.min(greatest, number));
    }

    private static void everyPairIsAccepted() {
        check.sentence("accepts every int for both arguments and is never refused");
        for (int gap : FAR) {
            for (int lateness : FAR) {
                EventWindowsX x = new EventWindowsX(gap, lateness);
                int g = clamp(gap, 1, 1000);
                int l = clamp(lateness, 0, 1000);
                check.due("gap() of (" + gap + ", " + lateness + ")", x.gap(), g);
                check.due("lateness() of (" + gap + ", " + lateness + ")", x.lateness(), l);
                x.addEvent(0, 5000, 1);
                check.session(x, 0, 0, 5000, 5000 + g, 1, 1);
                check.due("advance to before the end", x.advance(5000 + g - 1), 0);
                check.due("advance to the end", x.advance(5000 + g), 1);
                check.counts(x, l == 0 ? 0 : 1, l == 0 ? 0 : 1, l == 0 ? 0 : 1, 1, 0);
            }
        }
    }

    private static void gapBelowOneBecomesOne() {
        check.sentence("Any value below 1, including Integer.MIN_VALUE, becomes 1.");
        for (int gap : new int[] {0, -1, -2, -999, -1000, -1001, MIN + 1, MIN}) {
            check.due("gap() of " + gap, new EventWindowsX(gap, 7).gap(), 1);
        }
    }

    private static void gapAboveTheLimitBecomesTheLimit() {
        check.sentence("Any value above MAX_GAP, including Integer.MAX_VALUE, becomes MAX_GAP.");
        for (int gap : new int[] {1001, 1002, 2000, 65536, 2100000, MAX - 1, MAX}) {
            check.due("gap() of " + gap, new EventWindowsX(gap, 7).gap(), 1000);
        }
    }

    private static void gapInsideIsKept() {
        check.sentence("Values inside the range are kept.");
        for (int gap = 1; gap <= 1000; gap++) {
            check.due("gap() of " + gap, new EventWindowsX(gap, 7).gap(), gap);
        }
    }

    private static void latenessBelowZeroBecomesZero() {
        check.sentence("Below 0 becomes 0");
        for (int lateness : new int[] {-1, -2, -999, -1000, -1001, MIN + 1, MIN}) {
            check.due("lateness() of " + lateness, new EventWindowsX(7, lateness).lateness(), 0);
        }
    }

    private static void latenessAboveTheLimitBecomesTheLimit() {
        check.sentence("above MAX_LATENESS becomes MAX_LATENESS");
        for (int lateness : new int[] {1001, 1002, 2000, 65536, 2100000, MAX - 1, MAX}) {
            check.due("lateness() of " + lateness, new EventWindowsX(7, lateness).lateness(), 1000);
        }
    }

    private static void latenessInsideIsKept() {
        check.sentence("lateness is clamped into 0..MAX_LATENESS in the same way: values inside are kept");
        for (int lateness = 0; lateness <= 1000; lateness++) {
            check.due("lateness() of " + lateness, new EventWindowsX(7, lateness).lateness(), lateness);
        }
    }

    private static void theClampedGapLinks() {
        check.sentence("gap is clamped into 1..MAX_GAP: the clamped gap is the one that links");
        for (int gap : FAR) {
            int g = clamp(gap, 1, 1000);
            EventWindowsX near = new EventWindowsX(gap, 0);
            near.addEvent(0, 3000, 1);
            near.addEvent(0, 3000 + g - 1, 1);
            check.due("sessionCount() within the gap of " + gap, near.sessionCount(), 1);
            EventWindowsX apart = new EventWindowsX(gap, 0);
            apart.addEvent(0, 3000, 1);
            apart.addEvent(0, 3000 + g, 1);
            check.due("sessionCount() at the gap of " + gap, apart.sessionCount(), 2);
        }
    }

    private static void theClampedLatenessAdmits() {
        check.sentence("lateness is clamped into 0..MAX_LATENESS: the clamped lateness is the one that admits");
        for (int lateness : FAR) {
            int l = clamp(lateness, 0, 1000);
            EventWindowsX x = new EventWindowsX(1000, lateness);
            x.advance(5000);
            check.due("one too old for the lateness of " + lateness, x.addEvent(0, 5000 - l - 1, 1), DROPPED);
            check.due("the oldest for the lateness of " + lateness, x.addEvent(0, 5000 - l, 1), l == 1000 ? 1 : 0);
        }
    }

    private static void theClampedLatenessExpires() {
        check.sentence("lateness is clamped into 0..MAX_LATENESS: the clamped lateness is the one that expires");
        for (int lateness : FAR) {
            int l = clamp(lateness, 0, 1000);
            EventWindowsX x = new EventWindowsX(10, lateness);
            x.addEvent(0, 90, 1);
            x.advance(100 + l - 1);
            check.due("storedEvents() before the last moment", x.storedEvents(), 1);
            x.advance(100 + l);
            check.due("storedEvents() at the last moment", x.storedEvents(), 0);
        }
    }

    private static void startsAtZero() {
        check.sentence("At the start: W = 0.");
        for (int far : FAR) {
            check.due("watermark()", new EventWindowsX(far, far).watermark(), 0);
        }
    }

    private static void startsWithoutEventsSessionsAndPanes() {
        check.sentence("There are no stored events, no sessions and no outstanding panes.");
        for (int far : FAR) {
            EventWindowsX x = new EventWindowsX(far, far);
            check.due("storedEvents()", x.storedEvents(), 0);
            check.due("sessionCount()", x.sessionCount(), 0);
            check.due("paneCount()", x.paneCount(), 0);
            for (int i : new int[] {MIN, -1, 0, 1, 31, 32, MAX}) {
                check.session(x, i, -1, -1, -1, -1, -1);
                check.pane(x, i, -1, -1, -1, -1);
            }
        }
    }

    private static void startsWithoutRecords() {
        check.sentence("No records have been emitted.");
        for (int far : FAR) {
            EventWindowsX x = new EventWindowsX(far, far);
            check.due("recordCount()", x.recordCount(), 0);
            for (int seq : new int[] {MIN, -64, -1, 0, 1, 63, 64, MAX}) {
                check.record(x, seq, -1, -1, -1, -1, -1);
            }
        }
    }

    private static void startsWithoutDrops() {
        check.sentence("The dropped count is 0.");
        for (int far : FAR) {
            check.due("droppedCount()", new EventWindowsX(far, far).droppedCount(), 0);
        }
    }

    private static void gapAndLatenessNeverChange() {
        check.sentence("The clamped gap and lateness never change afterwards.");
        for (States.State state : States.all()) {
            EventWindowsX x = state.make();
            check.due(state.name() + ": gap()", x.gap(), state.gap());
            check.due(state.name() + ": lateness()", x.lateness(), state.lateness());
            twins.liveOn(state.name(), x, state.make());
            check.due(state.name() + ": gap() later", x.gap(), state.gap());
            check.due(state.name() + ": lateness() later", x.lateness(), state.lateness());
        }
    }

    private static void askingForGapChangesNothing() {
        check.sentence("gap() ... It changes nothing.");
        for (States.State state : States.all()) {
            twins.unchanged(state, "gap()", EventWindowsX::gap, state.gap());
        }
    }

    private static void askingForLatenessChangesNothing() {
        check.sentence("lateness() ... It changes nothing.");
        for (States.State state : States.all()) {
            twins.unchanged(state, "lateness()", EventWindowsX::lateness, state.lateness());
        }
    }
}
