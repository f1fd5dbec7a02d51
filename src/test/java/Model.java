import java.util.ArrayList;
import java.util.Comparator;
import java.util.List;

/**
 * The document told a second time, slowly and by other means than the program:
 * events in order of arrival, sessions grown by the linking rule itself.
 */
final class Model {
    record Event(int key, int time, int value) { }

    record Session(int key, int start, int end, int sum, List<Event> events) { }

    record Pane(int key, int start, int end, int value) { }

    record Emitted(int kind, int key, int start, int end, int value) { }

    final int gap;
    final int lateness;
    int watermark = 0;
    int dropped = 0;
    final List<Event> stored = new ArrayList<>();
    final List<Event> admitted = new ArrayList<>();
    final List<Pane> panes = new ArrayList<>();
    final List<Emitted> records = new ArrayList<>();

    Model(int gap, int lateness) {
        this.gap = Math.max(1, Math.min(1000, gap));
        this.lateness = Math.max(0, Math.min(1000, lateness));
    }

    int addEvent(int key, int time, int value) {
        if (key < 0 || key > 7 || time < 0 || time > 1000000 || value < -1000 || value > 1000) {
            return -1;
        }
        if (time + lateness < watermark) {
            dropped++;
            return -2;
        }
        if (stored.size() == 32) {
            return -3;
        }
        int before = records.size();
        Event event = new Event(key, time, value);
        stored.add(event);
        admitted.add(event);
        for (Session s : sessions(stored)) {
            if (s.key == key && s.start <= time && time < s.end && s.end <= watermark) {
                fire(s, 3);
            }
        }
        return records.size() - before;
    }

    int advance(int w) {
        if (w <= watermark || w > 2100000) {
            return -1;
        }
        int before = records.size();
        watermark = w;
        for (Session s : sessions(stored)) {
            if (s.end <= watermark) {
                fire(s, 2);
            }
        }
        for (Session s : sessions(stored)) {
            if (s.end + lateness <= watermark) {
                panes.removeAll(panesOf(s));
                s.events.forEach(stored::remove);
            }
        }
        return records.size() - before;
    }

    int early() {
        int before = records.size();
        for (Session s : sessions(stored)) {
            if (s.end > watermark) {
                fire(s, 1);
            }
        }
        return records.size() - before;
    }

    List<Session> sessions(List<Event> events) {
        List<Session> found = new ArrayList<>();
        List<Event> left = new ArrayList<>(events);
        while (!left.isEmpty()) {
            List<Event> group = new ArrayList<>();
            group.add(left.remove(0));
            for (int i = 0; i < group.size(); i++) {
                Event from = group.get(i);
                for (int j = left.size() - 1; j >= 0; j--) {
                    Event to = left.get(j);
                    if (from.key == to.key && Math.abs(from.time - to.time) < gap) {
                        group.add(left.remove(j));
                    }
                }
            }
            int start = group.stream().mapToInt(Event::time).min().getAsInt();
            int last = group.stream().mapToInt(Event::time).max().getAsInt();
            int sum = group.stream().mapToInt(Event::value).sum();
            found.add(new Session(group.get(0).key, start, last + gap, sum, group));
        }
        found.sort(Comparator.comparingInt(Session::key).thenComparingInt(Session::start));
        return found;
    }

    List<Pane> sortedPanes() {
        List<Pane> sorted = new ArrayList<>(panes);
        sorted.sort(Comparator.comparingInt(Pane::key).thenComparingInt(Pane::start));
        return sorted;
    }

    private List<Pane> panesOf(Session s) {
        List<Pane> mine = new ArrayList<>();
        for (Pane p : sortedPanes()) {
            if (p.key == s.key && s.start <= p.start && p.end <= s.end) {
                mine.add(p);
            }
        }
        return mine;
    }

    private void fire(Session s, int kind) {
        List<Pane> mine = panesOf(s);
        Pane due = new Pane(s.key, s.start, s.end, s.sum);
        if (mine.size() == 1 && mine.get(0).equals(due)) {
            return;
        }
        for (Pane p : mine) {
            records.add(new Emitted(4, p.key, p.start, p.end, p.value));
            panes.remove(p);
        }
        records.add(new Emitted(kind, s.key, s.start, s.end, s.sum));
        panes.add(due);
    }
}
