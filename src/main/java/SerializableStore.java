public final class SerializableStore {
    public static final int REFUSED = -1;
    public static final int DONE = 0;
    public static final int LOCKED = 1;
    public static final int CONFLICT = 2;
    public static final int FAILURE = 3;
    public static final int FULL = 4;
    public static final long ABSENT = 1000000000000L;
    public static final long NONE = -1000000000000L;

    private static final int KEYS = 64;
    private static final int SESSIONS = 4;
    private static final int NO_SESSION = -1;
    private static final int MOST_WRITES = 12;
    private static final int MOST_SAVEPOINTS = 3;
    private static final int MOST_TRACKED = 8;
    private static final int SNAPSHOT_ROWS = SESSIONS * KEYS;
    private static final int ALL_WRITES = SESSIONS * MOST_WRITES;
    private static final int ALL_SAVEPOINTS = SESSIONS * MOST_SAVEPOINTS;
    private static final int LEAST_GROUP = 2;
    private static final int GREATEST_GROUP = 6;
    private static final int COUNT_COMMITS = 0;
    private static final int COUNT_DURABLE = 1;
    private static final int COUNT_TRACKED = 2;
    private static final int COUNT_FIRST_SESSION = 3;

    private final int group;
    private int commits;
    private int durableCommits;

    // A row holds its value or ABSENT, which no int value equals.
    private final long[] rows = new long[KEYS];
    private final long[] durableRows = new long[KEYS];
    // The number of the last commit that wrote the key, or 0.
    private final int[] lastWriter = new int[KEYS];

    private final boolean[] open = new boolean[SESSIONS];
    private final boolean[] serializable = new boolean[SESSIONS];
    private final int[] start = new int[SESSIONS];
    private final long[] snapshot = new long[SNAPSHOT_ROWS];
    // Sets of keys are bit masks: key k is bit k.
    private final long[] readSet = new long[SESSIONS];
    private final int[] writeCount = new int[SESSIONS];
    private final int[] writeKey = new int[ALL_WRITES];
    private final long[] writeRow = new long[ALL_WRITES];
    private final int[] saveCount = new int[SESSIONS];
    private final int[] savedWrites = new int[ALL_SAVEPOINTS];

    // Committed serializable transactions. Eight slots are enough, since commit answers FULL
    // before a ninth could be tracked. Number 0 marks an empty slot: no START is below it.
    private final int[] pastNumber = new int[MOST_TRACKED];
    private final long[] pastReadSet = new long[MOST_TRACKED];
    private final long[] pastWriteSet = new long[MOST_TRACKED];
    // Whether some committed T has past -> T, and T -> past. Kept as flags, because that T may
    // have lost its slot while this one is still needed.
    private final boolean[] pastHasArrowOut = new boolean[MOST_TRACKED];
    private final boolean[] pastHasArrowIn = new boolean[MOST_TRACKED];

    public SerializableStore(int group) {
        int atLeast = group < LEAST_GROUP ? LEAST_GROUP : group;
        this.group = atLeast > GREATEST_GROUP ? GREATEST_GROUP : atLeast;
        for (int key = 0; key < KEYS; key++) {
            rows[key] = ABSENT;
            durableRows[key] = ABSENT;
        }
    }

    public int begin(int session, boolean serializable) {
        if (session < 0 || session >= SESSIONS || open[session]) {
            return REFUSED;
        }
        open[session] = true;
        this.serializable[session] = serializable;
        start[session] = commits;
        for (int key = 0; key < KEYS; key++) {
            snapshot[session * KEYS + key] = rows[key];
        }
        return DONE;
    }

    public long read(int session, int key) {
        if (!isOpen(session) || !isKey(key)) {
            return NONE;
        }
        addToReadSet(session, key);
        return visibleRow(session, key);
    }

    public int next(int session, int key) {
        if (!isOpen(session) || !isKey(key)) {
            return REFUSED;
        }
        for (int at = key; at < KEYS; at++) {
            addToReadSet(session, at);
            if (visibleRow(session, at) != ABSENT) {
                return at;
            }
        }
        return KEYS;
    }

    public long sum(int session, int low, int high) {
        if (!isOpen(session) || !isKey(low) || !isKey(high)) {
            return NONE;
        }
        long total = 0L;
        for (int key = low; key <= high; key++) {
            addToReadSet(session, key);
            long value = visibleRow(session, key);
            if (value != ABSENT) {
                total += value;
            }
        }
        return total;
    }

    public int write(int session, int key, int value, boolean present) {
        if (!isOpen(session) || !isKey(key)) {
            return REFUSED;
        }
        if (isLockedByOther(session, key)) {
            return LOCKED;
        }
        if (lastWriter[key] > start[session]) {
            endTransaction(session);
            return CONFLICT;
        }
        int place = writeCount[session];
        if (place >= MOST_WRITES) {
            return FULL;
        }
        writeKey[session * MOST_WRITES + place] = key;
        writeRow[session * MOST_WRITES + place] = present ? value : ABSENT;
        writeCount[session] = place + 1;
        return DONE;
    }

    public int save(int session) {
        if (!isOpen(session)) {
            return REFUSED;
        }
        int saved = saveCount[session];
        if (saved >= MOST_SAVEPOINTS) {
            return FULL;
        }
        savedWrites[session * MOST_SAVEPOINTS + saved] = writeCount[session];
        saveCount[session] = saved + 1;
        return DONE;
    }

    public int undo(int session) {
        if (!isOpen(session)) {
            return REFUSED;
        }
        int last = saveCount[session] - 1;
        if (last < 0) {
            return FULL;
        }
        writeCount[session] = savedWrites[session * MOST_SAVEPOINTS + last];
        saveCount[session] = last;
        return DONE;
    }

    public int commit(int session) {
        if (!isOpen(session)) {
            return REFUSED;
        }
        if (serializable[session]) {
            if (wouldJoinTwoArrows(session)) {
                endTransaction(session);
                return FAILURE;
            }
            if (trackedBesides(session) >= MOST_TRACKED) {
                endTransaction(session);
                return FULL;
            }
        }
        commits++;
        applyWrites(session);
        if (serializable[session]) {
            remember(session);
        }
        endTransaction(session);
        if (commits - durableCommits >= group) {
            makeDurable();
        }
        return DONE;
    }

    public int rollback(int session) {
        if (!isOpen(session)) {
            return REFUSED;
        }
        endTransaction(session);
        return DONE;
    }

    public int sync() {
        makeDurable();
        return commits;
    }

    public int crash() {
        for (int session = 0; session < SESSIONS; session++) {
            endTransaction(session);
        }
        commits = durableCommits;
        for (int key = 0; key < KEYS; key++) {
            rows[key] = durableRows[key];
            // The lost numbers are given anew, and no START to come is below a commit that is left.
            lastWriter[key] = 0;
        }
        for (int slot = 0; slot < MOST_TRACKED; slot++) {
            pastNumber[slot] = 0;
        }
        return commits;
    }

    public long row(int key) {
        return isKey(key) ? rows[key] : NONE;
    }

    public boolean seen(int session, int key) {
        return isOpen(session) && isKey(key) && visibleRow(session, key) != ABSENT;
    }

    public int savepoints(int session) {
        return isOpen(session) ? saveCount[session] : REFUSED;
    }

    public int count(int what) {
        if (what == COUNT_COMMITS) {
            return commits;
        }
        if (what == COUNT_DURABLE) {
            return durableCommits;
        }
        if (what == COUNT_TRACKED) {
            return trackedBesides(NO_SESSION);
        }
        if (what >= COUNT_FIRST_SESSION && what < COUNT_FIRST_SESSION + SESSIONS) {
            return writtenKeys(what - COUNT_FIRST_SESSION);
        }
        return REFUSED;
    }

    private boolean isOpen(int session) {
        return session >= 0 && session < SESSIONS && open[session];
    }

    private boolean isKey(int key) {
        return key >= 0 && key < KEYS;
    }

    private long visibleRow(int session, int key) {
        for (int place = writeCount[session] - 1; place >= 0; place--) {
            if (writeKey[session * MOST_WRITES + place] == key) {
                return writeRow[session * MOST_WRITES + place];
            }
        }
        return snapshot[session * KEYS + key];
    }

    private long writeSet(int session) {
        long keys = 0L;
        for (int place = 0; place < writeCount[session]; place++) {
            keys |= 1L << writeKey[session * MOST_WRITES + place];
        }
        return keys;
    }

    private boolean hasWritten(int session, int key) {
        return (writeSet(session) & (1L << key)) != 0L;
    }

    private int writtenKeys(int session) {
        int written = 0;
        for (int key = 0; key < KEYS; key++) {
            if (hasWritten(session, key)) {
                written++;
            }
        }
        return written;
    }

    private void addToReadSet(int session, int key) {
        if (!hasWritten(session, key)) {
            readSet[session] |= 1L << key;
        }
    }

    private boolean isLockedByOther(int session, int key) {
        for (int other = 0; other < SESSIONS; other++) {
            if (other != session && hasWritten(other, key)) {
                return true;
            }
        }
        return false;
    }

    // Nothing stays behind: a session without a transaction locks and counts no key, and begin
    // finds its sets empty.
    private void endTransaction(int session) {
        open[session] = false;
        readSet[session] = 0L;
        writeCount[session] = 0;
        saveCount[session] = 0;
    }

    private void applyWrites(int session) {
        for (int place = 0; place < writeCount[session]; place++) {
            int key = writeKey[session * MOST_WRITES + place];
            rows[key] = writeRow[session * MOST_WRITES + place];
            lastWriter[key] = commits;
        }
    }

    private void makeDurable() {
        durableCommits = commits;
        for (int key = 0; key < KEYS; key++) {
            durableRows[key] = rows[key];
        }
    }

    // The START of a past transaction is always below the next number, so one half of the
    // test for CONCURRENT is enough when the other transaction is still open.
    private boolean isConcurrent(int session, int slot) {
        return start[session] < pastNumber[slot];
    }

    private boolean hasArrowTo(int session, int slot) {
        return isConcurrent(session, slot) && (readSet[session] & pastWriteSet[slot]) != 0L;
    }

    private boolean hasArrowFrom(int session, int slot, long written) {
        return isConcurrent(session, slot) && (pastReadSet[slot] & written) != 0L;
    }

    // The pairs of arrows among past transactions alone were refused when the last of the three
    // committed, so only those are looked for that the session's transaction is part of.
    private boolean wouldJoinTwoArrows(int session) {
        long written = writeSet(session);
        boolean arrowOut = false;
        boolean arrowIn = false;
        for (int slot = 0; slot < MOST_TRACKED; slot++) {
            if (hasArrowTo(session, slot)) {
                if (pastHasArrowOut[slot]) {
                    return true;
                }
                arrowOut = true;
            }
            if (hasArrowFrom(session, slot, written)) {
                if (pastHasArrowIn[slot]) {
                    return true;
                }
                arrowIn = true;
            }
        }
        return arrowOut && arrowIn;
    }

    private boolean isTrackedBesides(int slot, int session) {
        for (int other = 0; other < SESSIONS; other++) {
            if (other != session && open[other] && serializable[other] && isConcurrent(other, slot)) {
                return true;
            }
        }
        return false;
    }

    private int trackedBesides(int session) {
        int tracked = 0;
        for (int slot = 0; slot < MOST_TRACKED; slot++) {
            if (isTrackedBesides(slot, session)) {
                tracked++;
            }
        }
        return tracked;
    }

    private void remember(int session) {
        long written = writeSet(session);
        boolean arrowOut = false;
        boolean arrowIn = false;
        for (int slot = 0; slot < MOST_TRACKED; slot++) {
            if (hasArrowTo(session, slot)) {
                pastHasArrowIn[slot] = true;
                arrowOut = true;
            }
            if (hasArrowFrom(session, slot, written)) {
                pastHasArrowOut[slot] = true;
                arrowIn = true;
            }
        }
        int free = untrackedSlot(session);
        pastNumber[free] = commits;
        pastReadSet[free] = readSet[session];
        pastWriteSet[free] = written;
        pastHasArrowOut[free] = arrowOut;
        pastHasArrowIn[free] = arrowIn;
    }

    // One that no open transaction is concurrent with stays so: every START to come is greater.
    private int untrackedSlot(int session) {
        for (int slot = 0; slot < MOST_TRACKED; slot++) {
            if (!isTrackedBesides(slot, session)) {
                return slot;
            }
        }
        return 0;
    }
}
