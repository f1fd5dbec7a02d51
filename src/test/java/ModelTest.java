import java.util.ArrayList;
import java.util.HashMap;
import java.util.List;
import java.util.Map;

/** Long runs of calls, the same ones every time, on the program and on the model beside it. */
public final class ModelTest {
    private static final Check check = new Check();
    private static final int CALLS = 300;

    private static long state = 20261115L;

    // A generator of our own keeps the runs the same on every machine.
    private static int below(int bound) {
        state = state * 6364136223846793005L + 1442695040888963407L;
        return (int) ((state >>> 33) % bound);
    }

    private static int between(int least, int greatest) {
        return least + below(greatest - least + 1);
    }

    public static void main(String[] args) {
        int[] gaps = {1, 2, 3, 10, 100, 1000};
        int[] latenesses = {0, 1, 5, 30, 300, 1000};
        for (int gap : gaps) {
            for (int lateness : latenesses) {
                for (int run = 0; run < 12 && check.wrongSoFar() == 0; run++) {
                    new Run(gap, lateness, run).play();
                }
            }
        }
        System.out.println("records by kind, EARLY to RETRACT: " + kinds[1] + " " + kinds[2] + " " + kinds[3]
                + " " + kinds[4] + "; merges of panes: " + merges + "; full: " + fulls + "; dropped: " + drops);
        for (int kind = 1; kind <= 4; kind++) {
            check.isTrue("the runs emit records of kind " + kind, kinds[kind] > 1000);
        }
        check.isTrue("the runs merge sessions that have panes", merges > 1000);
        check.isTrue("the runs fill the store", fulls > 1000);
        check.isTrue("the runs drop events", drops > 1000);
        check.end();
    }

    private static final long[] kinds = new long[5];
    private static long merges = 0;
    private static long fulls = 0;
    private static long drops = 0;

    private static final class Run {
        private final EventWindowsX x;
        private final Model model;
        private final int keys = between(1, 8);
        private final int spread;
        private final int step;
        private final int valueLimit = below(3) == 0 ? 1 : 1000;
        private final int eventShare = between(40, 90);
        private final List<String> calls = new ArrayList<>();

        // A run begins at W = 0, or where its times come to pass MAX_TIME, or
        // where W comes to pass MAX_WATERMARK.
        Run(int gap, int lateness, int number) {
            x = new EventWindowsX(gap, lateness);
            model = new Model(gap, lateness);
            if (number % 4 == 3) {
                firstAdvance(1000000 - 10 * (gap + lateness));
            } else if (number == 10) {
                firstAdvance(2100000 - 20 * (gap + lateness));
            }
            spread = gap * between(2, 12) + between(0, lateness);
            step = Math.max(1, (gap + lateness) / between(1, 4));
        }

        private void due(String call, int got, int want) {
            calls.add(call);
            check.due(call, got, want);
        }

        private void firstAdvance(int w) {
            due("advance(" + w + ")", x.advance(w), model.advance(w));
        }

        void play() {
            for (int i = 0; i < CALLS && check.wrongSoFar() == 0; i++) {
                // A full store must be let empty again, or the rest of the run says little.
                int choice = model.stored.size() == 32 && below(3) > 0 ? 99 : below(100);
                if (choice < eventShare) {
                    addEvent();
                } else if (choice < eventShare + (100 - eventShare) / 2) {
                    due("early()", x.early(), model.early());
                } else {
                    advance();
                }
                compare();
            }
            finish();
            if (check.wrongSoFar() != 0) {
                System.out.println("new EventWindowsX(" + model.gap + ", " + model.lateness + "): " + calls);
            }
        }

        private void addEvent() {
            int key = below(keys);
            int time = Math.max(0, model.watermark - model.lateness - 3 + below(spread + 3));
            int value = between(-valueLimit, valueLimit);
            int wrong = below(60);
            if (wrong == 0) {
                key = below(2) == 0 ? -1 : 8;
            } else if (wrong == 1) {
                time = below(2) == 0 ? -1 : 1000001;
            } else if (wrong == 2) {
                value = below(2) == 0 ? -1001 : 1001;
            }
            int want = model.addEvent(key, time, value);
            due("addEvent(" + key + ", " + time + ", " + value + ")", x.addEvent(key, time, value), want);
            drops += want == -2 ? 1 : 0;
            fulls += want == -3 ? 1 : 0;
        }

        private void advance() {
            int w = model.watermark + between(-1, step);
            due("advance(" + w + ")", x.advance(w), model.advance(w));
        }

        private void compare() {
            check.due("gap()", x.gap(), model.gap);
            check.due("lateness()", x.lateness(), model.lateness);
            check.due("watermark()", x.watermark(), model.watermark);
            List<Model.Session> sessions = model.sessions(model.stored);
            check.counts(x, model.stored.size(), sessions.size(), model.panes.size(), model.records.size(), model.dropped);
            for (int i = 0; i < sessions.size(); i++) {
                Model.Session s = sessions.get(i);
                check.session(x, i, s.key(), s.start(), s.end(), s.sum(), s.events().size());
            }
            check.session(x, sessions.size(), -1, -1, -1, -1, -1);
            List<Model.Pane> panes = model.sortedPanes();
            for (int i = 0; i < panes.size(); i++) {
                Model.Pane p = panes.get(i);
                check.pane(x, i, p.key(), p.start(), p.end(), p.value());
            }
            check.pane(x, panes.size(), -1, -1, -1, -1);
            int count = model.records.size();
            for (int seq = Math.max(0, count - 64); seq < count; seq++) {
                Model.Emitted r = model.records.get(seq);
                check.record(x, seq, r.kind(), r.key(), r.start(), r.end(), r.value());
            }
            check.record(x, count, -1, -1, -1, -1, -1);
            check.record(x, count - 65, -1, -1, -1, -1, -1);
        }

        // The document's "consequence for consumers".
        private void finish() {
            int last = model.watermark + 1;
            for (Model.Event e : model.admitted) {
                last = Math.max(last, e.time() + model.gap + model.lateness);
            }
            due("advance(" + last + ")", x.advance(last), model.advance(last));
            compare();
            check.due("storedEvents() at the end", x.storedEvents(), 0);
            check.due("sessionCount() at the end", x.sessionCount(), 0);
            check.due("paneCount() at the end", x.paneCount(), 0);
            // compare() has held every record against the program's, so the model's list stands for both.
            Map<List<Integer>, int[]> net = new HashMap<>();
            int retracted = 0;
            for (Model.Emitted r : model.records) {
                kinds[r.kind()]++;
                merges += r.kind() != 4 && retracted > 1 ? 1 : 0;
                retracted = r.kind() == 4 ? retracted + 1 : 0;
                int sign = r.kind() == 4 ? -1 : 1;
                int[] sums = net.computeIfAbsent(List.of(r.key(), r.start(), r.end()), k -> new int[2]);
                sums[0] += sign;
                sums[1] += sign * r.value();
            }
            for (Model.Session s : model.sessions(model.admitted)) {
                int[] sums = net.remove(List.of(s.key(), s.start(), s.end()));
                check.due("net count of a session", sums == null ? 0 : sums[0], 1);
                check.due("net value of a session", sums == null ? 0 : sums[1], s.sum());
            }
            for (int[] sums : net.values()) {
                check.due("net count of no session", sums[0], 0);
                check.due("net value of no session", sums[1], 0);
            }
        }
    }
}
