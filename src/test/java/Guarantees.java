/** What the document says of every moment between two calls, looked at through the answers alone. */
final class Guarantees {
    private static final int KEY = EventWindowsX.F_KEY;
    private static final int START = EventWindowsX.F_START;
    private static final int END = EventWindowsX.F_END;
    private static final int VALUE = EventWindowsX.F_VALUE;
    private static final int EVENTS = EventWindowsX.F_EVENTS;

    private final Check check;

    Guarantees(Check check) {
        this.check = check;
    }

    void hold(String what, EventWindowsX x) {
        limits(what, x);
        sessionsStandApartAndInOrder(what, x);
        panesStandApartAndInOrder(what, x);
        everyPaneHasOneSession(what, x);
        closedSessionsAreInSync(what, x);
    }

    private void limits(String what, EventWindowsX x) {
        check.isTrue(what + ": gap", x.gap() >= 1 && x.gap() <= 1000);
        check.isTrue(what + ": lateness", x.lateness() >= 0 && x.lateness() <= 1000);
        check.isTrue(what + ": W", x.watermark() >= 0 && x.watermark() <= 2100000);
        check.isTrue(what + ": at most 32 events", x.storedEvents() >= 0 && x.storedEvents() <= 32);
        check.isTrue(what + ": at most 32 panes", x.paneCount() >= 0 && x.paneCount() <= 32);
        int events = 0;
        for (int i = 0; i < x.sessionCount(); i++) {
            events += x.sessionField(i, EVENTS);
            check.isTrue(what + ": no session is empty", x.sessionField(i, EVENTS) > 0);
            check.isTrue(what + ": none is overdue", x.sessionField(i, END) + x.lateness() > x.watermark());
        }
        check.due(what + ": events of all sessions", events, x.storedEvents());
    }

    private void sessionsStandApartAndInOrder(String what, EventWindowsX x) {
        for (int i = 1; i < x.sessionCount(); i++) {
            int key = x.sessionField(i, KEY);
            int keyBefore = x.sessionField(i - 1, KEY);
            boolean apart = x.sessionField(i - 1, END) <= x.sessionField(i, START);
            check.isTrue(what + ": session order at " + i, keyBefore < key || keyBefore == key && apart);
        }
    }

    private void panesStandApartAndInOrder(String what, EventWindowsX x) {
        for (int i = 1; i < x.paneCount(); i++) {
            int key = x.paneField(i, KEY);
            int keyBefore = x.paneField(i - 1, KEY);
            boolean apart = x.paneField(i - 1, END) <= x.paneField(i, START);
            check.isTrue(what + ": pane order at " + i, keyBefore < key || keyBefore == key && apart);
        }
    }

    private void everyPaneHasOneSession(String what, EventWindowsX x) {
        for (int pane = 0; pane < x.paneCount(); pane++) {
            int owners = 0;
            for (int i = 0; i < x.sessionCount(); i++) {
                owners += belongs(x, pane, i) ? 1 : 0;
            }
            check.due(what + ": sessions that pane " + pane + " belongs to", owners, 1);
        }
    }

    private void closedSessionsAreInSync(String what, EventWindowsX x) {
        for (int i = 0; i < x.sessionCount(); i++) {
            if (x.sessionField(i, END) <= x.watermark()) {
                check.isTrue(what + ": session " + i + " is in sync", inSync(x, i));
            }
        }
    }

    static boolean inSync(EventWindowsX x, int session) {
        int belonging = 0;
        boolean equal = false;
        for (int pane = 0; pane < x.paneCount(); pane++) {
            if (belongs(x, pane, session)) {
                belonging++;
                equal = x.paneField(pane, START) == x.sessionField(session, START)
                        && x.paneField(pane, END) == x.sessionField(session, END)
                        && x.paneField(pane, VALUE) == x.sessionField(session, VALUE);
            }
        }
        return belonging == 1 && equal;
    }

    private static boolean belongs(EventWindowsX x, int pane, int session) {
        return x.paneField(pane, KEY) == x.sessionField(session, KEY)
                && x.sessionField(session, START) <= x.paneField(pane, START)
                && x.paneField(pane, END) <= x.sessionField(session, END);
    }
}
