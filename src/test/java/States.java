import java.util.ArrayList;
import java.util.List;
import java.util.function.Consumer;

/** Objects in every kind of state that the document tells apart, each made anew by calls alone. */
final class States {
    record State(String name, int gap, int lateness, Consumer<EventWindowsX> past) {
        EventWindowsX make() {
            EventWindowsX x = new EventWindowsX(gap, lateness);
            past.accept(x);
            return x;
        }
    }

    private States() { }

    static List<State> all() {
        List<State> all = new ArrayList<>();
        all.add(new State("fresh", 10, 50, x -> { }));
        all.add(new State("fresh, narrowest", 1, 0, x -> { }));
        all.add(new State("open session without pane", 10, 50, x -> x.addEvent(3, 100, 7)));
        all.add(new State("open session out of sync", 10, 50, States::openOutOfSync));
        all.add(new State("fired, late and open sessions", 10, 50, States::mixed));
        all.add(new State("session of the sum -1", 10, 50, States::minusOne));
        all.add(new State("expired and dropped", 10, 50, States::expiredAndDropped));
        all.add(new State("31 events", 10, 50, x -> copies(x, 31)));
        all.add(full());
        all.add(new State("full, one session, fired", 10, 50, States::fullAndFired));
        all.add(new State("full, 32 sessions and panes", 5, 1000, States::fullOfPanes));
        all.add(new State("neighbours with the narrowest gap", 1, 10, States::narrowNeighbours));
        all.add(new State("more records than the log", 10, 1000, States::manyRecords));
        all.add(new State("largest times", 1000, 1000, States::largest));
        all.add(new State("greatest watermark", 1000, 1000, States::greatestWatermark));
        return all;
    }

    static State full() {
        return new State("full, one session, open", 10, 50, x -> copies(x, 32));
    }

    static void copies(EventWindowsX x, int count) {
        for (int i = 0; i < count; i++) {
            x.addEvent(2, 100, 3);
        }
    }

    private static void openOutOfSync(EventWindowsX x) {
        x.addEvent(3, 100, 7);
        x.addEvent(3, 115, 2);
        x.early();
        x.addEvent(3, 107, 1);
    }

    static void mixed(EventWindowsX x) {
        x.addEvent(0, 100, 1);
        x.addEvent(0, 110, 2);
        x.addEvent(1, 100, 4);
        x.addEvent(1, 130, 8);
        x.addEvent(7, 200, 16);
        x.early();
        x.advance(125);
        x.addEvent(1, 112, 32);
        x.addEvent(4, 80, 64);
        x.addEvent(0, 116, 128);
        x.addEvent(0, 20, 1);
    }

    private static void minusOne(EventWindowsX x) {
        x.addEvent(0, 0, -1);
        x.early();
        x.addEvent(1, 1, -1);
    }

    private static void expiredAndDropped(EventWindowsX x) {
        x.addEvent(5, 100, 1);
        x.advance(160);
        x.addEvent(5, 109, 1);
        x.addEvent(5, 0, 1);
    }

    private static void fullAndFired(EventWindowsX x) {
        copies(x, 32);
        x.advance(110);
    }

    private static void fullOfPanes(EventWindowsX x) {
        for (int i = 31; i >= 0; i--) {
            x.addEvent(i / 4, 10 * i, i - 16);
        }
        x.early();
        x.advance(155);
    }

    private static void narrowNeighbours(EventWindowsX x) {
        for (int time = 20; time < 30; time++) {
            x.addEvent(time % 2, time, time);
            x.addEvent(2, time, -time);
        }
        x.early();
        x.addEvent(2, 26, 5);
        x.advance(25);
        x.addEvent(2, 22, 5);
    }

    private static void manyRecords(EventWindowsX x) {
        for (int round = 0; round < 5; round++) {
            for (int i = 0; i < 12; i++) {
                x.addEvent(i % 3, 2000 * round + 100 * i, i);
                x.early();
                x.addEvent(i % 3, 2000 * round + 100 * i, -i - 1);
            }
            x.advance(2000 * round + 2500);
        }
    }

    private static void largest(EventWindowsX x) {
        x.addEvent(7, 1000000, 1000);
        x.addEvent(7, 999001, -1000);
        x.addEvent(6, 1000000, 1000);
        x.advance(1000999);
        x.early();
        x.advance(1001500);
    }

    private static void greatestWatermark(EventWindowsX x) {
        x.addEvent(7, 1000000, 1000);
        x.advance(2100000);
        x.addEvent(7, 1000000, 1000);
    }
}
