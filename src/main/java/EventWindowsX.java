public final class EventWindowsX {
    public static final int BAD = -1;
    public static final int DROPPED = -2;
    public static final int FULL = -3;
    public static final int EARLY = 1;
    public static final int ONTIME = 2;
    public static final int LATE = 3;
    public static final int RETRACT = 4;
    public static final int F_KIND = 0;
    public static final int F_KEY = 1;
    public static final int F_START = 2;
    public static final int F_END = 3;
    public static final int F_VALUE = 4;
    public static final int F_EVENTS = 5;
    public static final int MAX_KEY = 7;
    public static final int MAX_TIME = 1000000;
    public static final int MAX_VALUE = 1000;
    public static final int MAX_WATERMARK = 2100000;
    public static final int CAPACITY = 32;
    public static final int LOG = 64;
    public static final int MAX_GAP = 1000;
    public static final int MAX_LATENESS = 1000;

    private static final int NO_FIELD = -1;

    // LOG is a power of two, so the mask gives a slot inside the log even when
    // the record count has wrapped around to a negative number.
    private static final int LOG_MASK = LOG - 1;

    private final int gap;
    private final int lateness;
    private int watermark;
    private int dropped;

    // Kept by key, then by time: every session is then a run of neighbours, and
    // the runs stand in session order.
    private final int[] eventKey = new int[CAPACITY];
    private final int[] eventTime = new int[CAPACITY];
    private final int[] eventValue = new int[CAPACITY];
    private int stored;

    // Kept in pane order.
    private final int[] paneKey = new int[CAPACITY];
    private final int[] paneStart = new int[CAPACITY];
    private final int[] paneEnd = new int[CAPACITY];
    private final int[] paneValue = new int[CAPACITY];
    private int panes;

    private final int[] recordKind = new int[LOG];
    private final int[] recordKey = new int[LOG];
    private final int[] recordStart = new int[LOG];
    private final int[] recordEnd = new int[LOG];
    private final int[] recordValue = new int[LOG];
    private int emitted;

    public EventWindowsX(int gap, int lateness) {
        this.gap = clamp(gap, 1, MAX_GAP);
        this.lateness = clamp(lateness, 0, MAX_LATENESS);
    }

    public int gap() {
        return gap;
    }

    public int lateness() {
        return lateness;
    }

    public int addEvent(int key, int time, int value) {
        if (key < 0 || key > MAX_KEY) {
            return BAD;
        }
        if (time < 0 || time > MAX_TIME) {
            return BAD;
        }
        if (value < -MAX_VALUE || value > MAX_VALUE) {
            return BAD;
        }
        if (time + lateness < watermark) {
            dropped++;
            return DROPPED;
        }
        if (stored >= CAPACITY) {
            return FULL;
        }
        int before = emitted;
        int place = insertEvent(key, time, value);
        int first = firstOfSession(place);
        if (endOfSession(first) <= watermark) {
            fire(first, LATE);
        }
        return emitted - before;
    }

    public int advance(int w) {
        if (w <= watermark || w > MAX_WATERMARK) {
            return BAD;
        }
        int before = emitted;
        watermark = w;
        for (int i = 0; i < stored; i++) {
            if (opensSession(i) && endOfSession(i) <= watermark) {
                fire(i, ONTIME);
            }
        }
        expireSessions();
        return emitted - before;
    }

    public int early() {
        int before = emitted;
        for (int i = 0; i < stored; i++) {
            if (opensSession(i) && endOfSession(i) > watermark) {
                fire(i, EARLY);
            }
        }
        return emitted - before;
    }

    public int watermark() {
        return watermark;
    }

    public int storedEvents() {
        return stored;
    }

    public int droppedCount() {
        return dropped;
    }

    public int recordCount() {
        return emitted;
    }

    public int recordField(int seq, int field) {
        if (seq < 0 || seq >= emitted || seq < emitted - LOG) {
            return NO_FIELD;
        }
        int slot = seq & LOG_MASK;
        switch (field) {
            case F_KIND:
                return recordKind[slot];
            case F_KEY:
                return recordKey[slot];
            case F_START:
                return recordStart[slot];
            case F_END:
                return recordEnd[slot];
            case F_VALUE:
                return recordValue[slot];
            default:
                return NO_FIELD;
        }
    }

    public int sessionCount() {
        int count = 0;
        for (int i = 0; i < stored; i++) {
            if (opensSession(i)) {
                count++;
            }
        }
        return count;
    }

    public int sessionField(int i, int field) {
        int first = firstOfSessionAt(i);
        if (first >= stored) {
            return NO_FIELD;
        }
        switch (field) {
            case F_KEY:
                return eventKey[first];
            case F_START:
                return eventTime[first];
            case F_END:
                return endOfSession(first);
            case F_VALUE:
                return sumOfSession(first);
            case F_EVENTS:
                return pastSession(first) - first;
            default:
                return NO_FIELD;
        }
    }

    public int paneCount() {
        return panes;
    }

    public int paneField(int i, int field) {
        if (i < 0 || i >= panes) {
            return NO_FIELD;
        }
        switch (field) {
            case F_KEY:
                return paneKey[i];
            case F_START:
                return paneStart[i];
            case F_END:
                return paneEnd[i];
            case F_VALUE:
                return paneValue[i];
            default:
                return NO_FIELD;
        }
    }

    private static int clamp(int number, int least, int greatest) {
        if (number < least) {
            return least;
        }
        if (number > greatest) {
            return greatest;
        }
        return number;
    }

    // The caller has seen that there is room.
    private int insertEvent(int key, int time, int value) {
        int place = stored;
        while (place > 0 && eventComesAfter(place - 1, key, time)) {
            moveEvent(place - 1, place);
            place--;
        }
        eventKey[place] = key;
        eventTime[place] = time;
        eventValue[place] = value;
        stored++;
        return place;
    }

    private boolean eventComesAfter(int i, int key, int time) {
        return eventKey[i] > key || (eventKey[i] == key && eventTime[i] > time);
    }

    private void moveEvent(int from, int to) {
        eventKey[to] = eventKey[from];
        eventTime[to] = eventTime[from];
        eventValue[to] = eventValue[from];
    }

    // Neighbours in time decide alone: if an event isn't linked to the one just
    // before it, it is linked to none before it.
    private boolean opensSession(int i) {
        return i == 0 || eventKey[i] != eventKey[i - 1] || eventTime[i] - eventTime[i - 1] >= gap;
    }

    private int firstOfSession(int i) {
        int first = i;
        while (first > 0 && !opensSession(first)) {
            first--;
        }
        return first;
    }

    // Answers the number of stored events when there is no session at that position.
    private int firstOfSessionAt(int position) {
        int seen = 0;
        for (int i = 0; i < stored; i++) {
            if (opensSession(i)) {
                if (seen == position) {
                    return i;
                }
                seen++;
            }
        }
        return stored;
    }

    private int pastSession(int first) {
        int past = first + 1;
        while (past < stored && !opensSession(past)) {
            past++;
        }
        return past;
    }

    private int endOfSession(int first) {
        int past = pastSession(first);
        return eventTime[past - 1] + gap;
    }

    private int sumOfSession(int first) {
        int past = pastSession(first);
        int sum = 0;
        for (int i = first; i < past; i++) {
            sum += eventValue[i];
        }
        return sum;
    }

    private void fire(int first, int kind) {
        int key = eventKey[first];
        int start = eventTime[first];
        int end = endOfSession(first);
        int sum = sumOfSession(first);
        if (isInSync(key, start, end, sum)) {
            return;
        }
        retractPanes(key, start, end);
        emit(kind, key, start, end, sum);
        addPane(key, start, end, sum);
    }

    private boolean isInSync(int key, int start, int end, int sum) {
        int belonging = 0;
        int matching = 0;
        for (int i = 0; i < panes; i++) {
            if (paneBelongs(i, key, start, end)) {
                belonging++;
                if (paneStart[i] == start && paneEnd[i] == end && paneValue[i] == sum) {
                    matching++;
                }
            }
        }
        return belonging == 1 && matching == 1;
    }

    private boolean paneBelongs(int i, int key, int start, int end) {
        return paneKey[i] == key && start <= paneStart[i] && paneEnd[i] <= end;
    }

    private void retractPanes(int key, int start, int end) {
        for (int i = 0; i < panes; i++) {
            if (paneBelongs(i, key, start, end)) {
                emit(RETRACT, paneKey[i], paneStart[i], paneEnd[i], paneValue[i]);
            }
        }
        removePanes(key, start, end);
    }

    private void removePanes(int key, int start, int end) {
        int kept = 0;
        for (int i = 0; i < panes; i++) {
            if (!paneBelongs(i, key, start, end)) {
                movePane(i, kept);
                kept++;
            }
        }
        panes = kept;
    }

    private void movePane(int from, int to) {
        paneKey[to] = paneKey[from];
        paneStart[to] = paneStart[from];
        paneEnd[to] = paneEnd[from];
        paneValue[to] = paneValue[from];
    }

    private void addPane(int key, int start, int end, int value) {
        // Panes don't overlap and each covers a stored event, so there is always
        // room; the look is there so that no index can ever leave the arrays.
        if (panes >= CAPACITY) {
            return;
        }
        int place = panes;
        while (place > 0 && paneComesAfter(place - 1, key, start)) {
            movePane(place - 1, place);
            place--;
        }
        paneKey[place] = key;
        paneStart[place] = start;
        paneEnd[place] = end;
        paneValue[place] = value;
        panes++;
    }

    private boolean paneComesAfter(int i, int key, int start) {
        return paneKey[i] > key || (paneKey[i] == key && paneStart[i] > start);
    }

    private void emit(int kind, int key, int start, int end, int value) {
        int slot = emitted & LOG_MASK;
        recordKind[slot] = kind;
        recordKey[slot] = key;
        recordStart[slot] = start;
        recordEnd[slot] = end;
        recordValue[slot] = value;
        emitted++;
    }

    // Goes backwards so that a removal leaves the sessions still to be looked at
    // where they are.
    private void expireSessions() {
        for (int i = stored - 1; i >= 0; i--) {
            if (opensSession(i) && endOfSession(i) + lateness <= watermark) {
                expire(i);
            }
        }
    }

    private void expire(int first) {
        int past = pastSession(first);
        int end = eventTime[past - 1] + gap;
        removePanes(eventKey[first], eventTime[first], end);
        int kept = first;
        for (int i = past; i < stored; i++) {
            moveEvent(i, kept);
            kept++;
        }
        stored = kept;
    }
}
