// Each sentence of the document that names a boundary case, in the document's order and in its
// words: the last input on this side of the boundary, the first one beyond it, and that a call
// beyond it changes nothing that can be seen. RefusedCallsTest looks at what can't be seen at once.
public final class BoundaryTest {
    private static final int REFUSED = SerializableStore.REFUSED;
    private static final int DONE = SerializableStore.DONE;
    private static final int LOCKED = SerializableStore.LOCKED;
    private static final int CONFLICT = SerializableStore.CONFLICT;
    private static final int FAILURE = SerializableStore.FAILURE;
    private static final int FULL = SerializableStore.FULL;
    private static final long ABSENT = SerializableStore.ABSENT;
    private static final long NONE = SerializableStore.NONE;
    private static final int MIN = Integer.MIN_VALUE;
    private static final int MAX = Integer.MAX_VALUE;
    private static final int[] EDGE_KEYS = {0, 1, 31, 32, 62, 63};
    private static final int[] WRONG_KEYS = {-1, 64, MIN, MAX};
    private static final int[] WRONG_SESSIONS = {-1, 4, MIN, MAX};
    // A key that no test uses for anything but arrowBothWays.
    private static final int ARROW_KEY = 60;

    private static SerializableStore x;
    private static String sentence;
    private static int wrong = 0;

    private static void due(String call, long got, long want) {
        if (got != want) {
            wrong++;
            System.out.println(call + " answered " + got + ", due is " + want + ", where \"" + sentence + "\"");
        }
    }

    private static void newStore(int group) {
        x = new SerializableStore(group);
    }

    private static void begin(int session, boolean serializable, int want) {
        due("begin(" + session + ", " + serializable + ")", x.begin(session, serializable), want);
    }

    private static void read(int session, int key, long want) {
        due("read(" + session + ", " + key + ")", x.read(session, key), want);
    }

    private static void next(int session, int key, int want) {
        due("next(" + session + ", " + key + ")", x.next(session, key), want);
    }

    private static void sum(int session, int low, int high, long want) {
        due("sum(" + session + ", " + low + ", " + high + ")", x.sum(session, low, high), want);
    }

    private static void write(int session, int key, int value, boolean present, int want) {
        due("write(" + session + ", " + key + ", " + value + ", " + present + ")",
                x.write(session, key, value, present), want);
    }

    private static void write(int session, int key, int want) {
        write(session, key, key + 100, true, want);
    }

    private static void save(int session, int want) {
        due("save(" + session + ")", x.save(session), want);
    }

    private static void undo(int session, int want) {
        due("undo(" + session + ")", x.undo(session), want);
    }

    private static void commit(int session, int want) {
        due("commit(" + session + ")", x.commit(session), want);
    }

    private static void rollback(int session, int want) {
        due("rollback(" + session + ")", x.rollback(session), want);
    }

    private static void sync(int want) {
        due("sync()", x.sync(), want);
    }

    private static void crash(int want) {
        due("crash()", x.crash(), want);
    }

    private static void row(int key, long want) {
        due("row(" + key + ")", x.row(key), want);
    }

    private static void seen(int session, int key, boolean want) {
        due("seen(" + session + ", " + key + ")", x.seen(session, key) ? 1 : 0, want ? 1 : 0);
    }

    private static void savepoints(int session, int want) {
        due("savepoints(" + session + ")", x.savepoints(session), want);
    }

    private static void count(int what, int want) {
        due("count(" + what + ")", x.count(what), want);
    }

    // One commit of the key, with the value key + 100.
    private static void put(int session, int key) {
        begin(session, false, DONE);
        write(session, key, DONE);
        commit(session, DONE);
    }

    private static void commitsOfNothing(int session, boolean serializable, int times) {
        for (int made = 0; made < times; made++) {
            begin(session, serializable, DONE);
            commit(session, DONE);
        }
    }

    private static void writesOf(int session, int firstKey, int times) {
        for (int made = 0; made < times; made++) {
            write(session, firstKey + made, DONE);
        }
    }

    // All that can be seen without reading: the rows and the sights at the edge keys, and every count.
    private static String picture() {
        StringBuilder all = new StringBuilder();
        for (int key : EDGE_KEYS) {
            all.append(x.row(key)).append(' ');
            for (int session = 0; session < 4; session++) {
                all.append(x.seen(session, key)).append(' ');
            }
        }
        for (int what = 0; what < 7; what++) {
            all.append(x.count(what)).append(' ');
        }
        for (int session = 0; session < 4; session++) {
            all.append(x.savepoints(session)).append(' ');
        }
        return all.toString();
    }

    private static void unchanged(String before) {
        String after = picture();
        if (!after.equals(before)) {
            wrong++;
            System.out.println("a refused call changed " + before + " to " + after + ", where \"" + sentence + "\"");
        }
    }

    // Whether serializable session 0, still open, has read the key: session 1 reads what 0 writes
    // and writes the key, so that 0 would be joined by arrows both ways.
    private static void arrowBothWays(int key, boolean hasRead) {
        write(0, ARROW_KEY, DONE);
        begin(1, true, DONE);
        read(1, ARROW_KEY, ABSENT);
        write(1, key, DONE);
        commit(1, DONE);
        commit(0, hasRead ? FAILURE : DONE);
    }

    // Rows 20 and 30 are there, and serializable session 0 is open.
    private static void newReader() {
        newStore(6);
        put(2, 20);
        put(2, 30);
        begin(0, true, DONE);
    }

    // Eight or fewer that are tracked for session 3 alone, committed by session 0.
    private static void newTracked(int tracked) {
        newStore(6);
        begin(3, true, DONE);
        commitsOfNothing(0, true, tracked);
        count(2, tracked);
    }

    // ---- What it is

    private static void most512Calls() {
        sentence = "An object is used for at most 512 calls after it has been made";
        newStore(2);
        for (int made = 0; made < 255; made++) {
            begin(made % 4, made % 2 == 0, DONE);
            commit(made % 4, DONE);
        }
        count(1, 254);
        crash(254);
        newStore(6);
        begin(3, false, DONE);
        for (int made = 1; made <= 169; made++) {
            begin(0, false, DONE);
            write(0, 63, made, true, DONE);
            commit(0, DONE);
        }
        read(3, 63, ABSENT);
        row(63, 169);
        write(3, 63, 1, true, CONFLICT);
        sync(169);
        newTracked(8);
        for (int made = 0; made < 246; made++) {
            begin(0, true, DONE);
            commit(0, FULL);
        }
        count(0, 8);
        count(2, 8);
    }

    // ---- Terms

    private static void keys0To63() {
        sentence = "Keys 0 .. 63";
        for (int key : new int[] {0, 63}) {
            newStore(6);
            begin(0, true, DONE);
            read(0, key, ABSENT);
            next(0, key, 64);
            sum(0, key, key, 0);
            seen(0, key, false);
            row(key, ABSENT);
            write(0, key, 7, true, DONE);
            read(0, key, 7);
            next(0, key, key);
            sum(0, key, key, 7);
            seen(0, key, true);
            commit(0, DONE);
            row(key, 7);
        }
    }

    private static void valuesAreInts() {
        sentence = "a row is there with an int value, or absent";
        for (int value : new int[] {MIN, -1, 0, 1, MAX}) {
            newStore(2);
            begin(0, false, DONE);
            write(0, 5, value, true, DONE);
            write(0, 6, value, true, DONE);
            write(0, 6, value, false, DONE);
            read(0, 5, value);
            seen(0, 5, true);
            read(0, 6, ABSENT);
            seen(0, 6, false);
            commit(0, DONE);
            row(5, value);
            row(6, ABSENT);
            sync(1);
            crash(1);
            row(5, value);
            row(6, ABSENT);
        }
    }

    private static void absentAtFirst() {
        sentence = "All rows are absent at first.";
        newStore(6);
        begin(0, true, DONE);
        for (int key = 0; key < 64; key++) {
            row(key, ABSENT);
            read(0, key, ABSENT);
            seen(0, key, false);
        }
        next(0, 0, 64);
        sum(0, 0, 63, 0);
        crash(0);
        for (int key = 0; key < 64; key++) {
            row(key, ABSENT);
        }
    }

    private static void numberedFrom1() {
        sentence = "COMMITS are numbered 1, 2, .. in their order.";
        newStore(6);
        count(0, 0);
        put(0, 1);
        count(0, 1);
        begin(0, false, DONE);
        write(0, 1, DONE);
        rollback(0, DONE);
        count(0, 1);
        put(0, 2);
        count(0, 2);
        // A transaction that ends in another way than by a commit takes no number.
        begin(0, false, DONE);
        put(1, 3);
        write(0, 3, CONFLICT);
        count(0, 3);
    }

    private static void groupNotDurable(int group) {
        newStore(group);
        for (int made = 1; made <= 2 * group + 1; made++) {
            put(0, made);
            count(0, made);
            count(1, made - made % group);
        }
        crash(2 * group);
        row(2 * group, 2 * group + 100);
        row(2 * group + 1, ABSENT);
        newStore(group);
        commitsOfNothing(0, true, group - 1);
        count(1, 0);
        crash(0);
        // The group counts commits that are not durable, and a crash or a sync leaves none.
        commitsOfNothing(0, false, group - 1);
        count(1, 0);
        sync(group - 1);
        commitsOfNothing(0, true, group - 1);
        count(1, group - 1);
        commitsOfNothing(0, false, 1);
        count(1, 2 * group - 1);
    }

    private static void durableInGroups() {
        sentence = "as soon as GROUP commits are not durable, all commits become durable at once";
        for (int group = 2; group <= 6; group++) {
            groupNotDurable(group);
        }
    }

    private static void onlyCommitsFillTheGroup() {
        sentence = "as soon as GROUP commits are not durable, all commits become durable at once";
        newTracked(7);
        commitsOfNothing(0, true, 1);
        sync(8);
        commitsOfNothing(0, false, 5);
        begin(0, true, DONE);
        commit(0, FULL);
        begin(0, true, DONE);
        rollback(0, DONE);
        count(1, 8);
        commitsOfNothing(0, false, 1);
        count(1, 14);
    }

    private static void sessions0To3() {
        sentence = "A session 0 .. 3 has an open transaction or none.";
        for (int session : new int[] {0, 3}) {
            newStore(6);
            savepoints(session, REFUSED);
            begin(session, true, DONE);
            read(session, 1, ABSENT);
            next(session, 1, 64);
            sum(session, 1, 2, 0);
            write(session, 1, 5, true, DONE);
            seen(session, 1, true);
            count(3 + session, 1);
            save(session, DONE);
            savepoints(session, 1);
            undo(session, DONE);
            commit(session, DONE);
            begin(session, false, DONE);
            rollback(session, DONE);
            savepoints(session, REFUSED);
        }
    }

    private static void sessionsStandAlone() {
        sentence = "A session 0 .. 3 has an open transaction or none.";
        newStore(6);
        for (int session = 0; session < 4; session++) {
            begin(session, session % 2 == 1, DONE);
            writesOf(session, 16 * session, 12);
            for (int saved = 0; saved < 3; saved++) {
                save(session, DONE);
            }
        }
        for (int session = 0; session < 4; session++) {
            count(3 + session, 12);
            savepoints(session, 3);
            next(session, 0, 16 * session);
            read(session, 16 * session + 11, 16 * session + 111);
            read(session, (16 * session + 16) % 64, ABSENT);
        }
        for (int session = 3; session >= 0; session--) {
            commit(session, DONE);
            savepoints(session, REFUSED);
        }
        count(0, 4);
        for (int key = 0; key < 64; key++) {
            row(key, key % 16 < 12 ? key + 100 : ABSENT);
        }
    }

    private static void startIsTheNumberOfCommits() {
        sentence = "a START, the number of commits when it began";
        newStore(6);
        put(0, 1);
        begin(1, false, DONE);
        put(0, 2);
        begin(2, false, DONE);
        // The last commit that it sees, and the first one that it doesn't.
        read(1, 1, 101);
        read(1, 2, ABSENT);
        read(2, 2, 102);
        write(1, 1, DONE);
        write(2, 2, DONE);
        rollback(2, DONE);
        write(1, 2, CONFLICT);
    }

    private static void seesOwnLastWrite() {
        sentence = "T SEES of a row its own last write that was not undone, if it has one";
        newStore(6);
        put(0, 5);
        begin(0, false, DONE);
        read(0, 5, 105);
        write(0, 5, 1, true, DONE);
        read(0, 5, 1);
        save(0, DONE);
        write(0, 5, 2, true, DONE);
        write(0, 5, 3, false, DONE);
        read(0, 5, ABSENT);
        seen(0, 5, false);
        undo(0, DONE);
        read(0, 5, 1);
        seen(0, 5, true);
        rollback(0, DONE);
        begin(0, false, DONE);
        save(0, DONE);
        write(0, 5, 3, false, DONE);
        undo(0, DONE);
        read(0, 5, 105);
    }

    private static void most12Writes() {
        sentence = "at most 12 that were not undone, each with a place (1, 2, ..) among them";
        newStore(6);
        begin(0, false, DONE);
        writesOf(0, 0, 11);
        save(0, DONE);
        write(0, 63, DONE);
        write(0, 62, FULL);
        undo(0, DONE);
        // Eleven are left, so there is one place more.
        write(0, 32, DONE);
        String before = picture();
        write(0, 62, FULL);
        write(0, 32, 1, true, FULL);
        write(0, 0, 1, false, FULL);
        unchanged(before);
        commit(0, DONE);
        row(32, 132);
        row(62, ABSENT);
        row(63, ABSENT);
        for (int key = 0; key < 11; key++) {
            row(key, key + 100);
        }
    }

    private static void most12WritesOfOneKey() {
        sentence = "at most 12 that were not undone, each with a place (1, 2, ..) among them";
        newStore(6);
        begin(0, false, DONE);
        for (int place = 1; place <= 12; place++) {
            write(0, 63, place, true, DONE);
        }
        write(0, 63, 13, true, FULL);
        count(3, 1);
        commit(0, DONE);
        row(63, 12);
        // The next transaction has its twelve places again.
        begin(0, false, DONE);
        writesOf(0, 0, 12);
        write(0, 12, FULL);
        rollback(0, DONE);
        begin(0, false, DONE);
        writesOf(0, 12, 12);
        write(0, 0, FULL);
    }

    private static void most3Savepoints() {
        sentence = "at most 3 savepoints, each a number of writes";
        newStore(6);
        begin(0, false, DONE);
        for (int saved = 1; saved <= 3; saved++) {
            write(0, saved, DONE);
            save(0, DONE);
            savepoints(0, saved);
        }
        write(0, 4, DONE);
        save(0, FULL);
        savepoints(0, 3);
        for (int left = 3; left >= 1; left--) {
            undo(0, DONE);
            savepoints(0, left - 1);
            count(3, left);
            seen(0, left, true);
            seen(0, left + 1, false);
        }
        undo(0, FULL);
        count(3, 1);
    }

    private static void readSetIsEmptyAtFirst() {
        sentence = "a READ SET of keys, empty at first";
        for (int key = 0; key < 64; key++) {
            if (key != ARROW_KEY) {
                newReader();
                arrowBothWays(key, false);
            }
        }
        // What the session's last transaction has read is not in the next one's.
        newReader();
        sum(0, 0, 59, 250);
        commit(0, DONE);
        begin(0, true, DONE);
        arrowBothWays(20, false);
        newReader();
        sum(0, 0, 59, 250);
        crash(0);
        begin(0, true, DONE);
        arrowBothWays(20, false);
    }

    private static void readAddsEachKey() {
        sentence = "A call that is said to READ a key adds it";
        for (int key = 0; key < 64; key++) {
            if (key != ARROW_KEY) {
                newReader();
                read(0, key, key == 20 || key == 30 ? key + 100 : ABSENT);
                arrowBothWays(key, true);
            }
        }
        // Once more adds nothing more and takes nothing out.
        newReader();
        read(0, 40, ABSENT);
        read(0, 40, ABSENT);
        arrowBothWays(40, true);
        newReader();
        sum(0, 40, 41, 0);
        next(0, 40, 64);
        arrowBothWays(41, true);
        newReader();
        read(0, 31, ABSENT);
        arrowBothWays(63, false);
        newReader();
        read(0, 32, ABSENT);
        arrowBothWays(0, false);
    }

    private static void readOfAnOwnWriteAddsNothing() {
        sentence = "adds it, but if T has at that time an own write of the key that was not undone";
        newReader();
        save(0, DONE);
        write(0, 20, 5, true, DONE);
        read(0, 20, 5);
        sum(0, 20, 20, 5);
        next(0, 20, 20);
        undo(0, DONE);
        arrowBothWays(20, false);
        newReader();
        save(0, DONE);
        write(0, 20, 5, false, DONE);
        read(0, 20, ABSENT);
        undo(0, DONE);
        arrowBothWays(20, false);
        // At that time: not later, and not earlier.
        newReader();
        save(0, DONE);
        write(0, 20, 5, true, DONE);
        undo(0, DONE);
        read(0, 20, 120);
        arrowBothWays(20, true);
        newReader();
        read(0, 20, 120);
        save(0, DONE);
        write(0, 20, 5, true, DONE);
        undo(0, DONE);
        arrowBothWays(20, true);
        // An own write of another key, and another session's write of the key, are none of this.
        newReader();
        write(0, 21, DONE);
        read(0, 20, 120);
        arrowBothWays(20, true);
        newReader();
        begin(3, true, DONE);
        write(3, 20, DONE);
        read(0, 20, 120);
        rollback(3, DONE);
        arrowBothWays(20, true);
    }

    private static void undoKeepsTheReadSet() {
        sentence = "Undoing writes and rolling back to savepoints takes nothing out of the read set";
        newReader();
        save(0, DONE);
        save(0, DONE);
        save(0, DONE);
        read(0, 20, 120);
        write(0, 20, DONE);
        undo(0, DONE);
        undo(0, DONE);
        undo(0, DONE);
        undo(0, FULL);
        arrowBothWays(20, true);
        newReader();
        save(0, DONE);
        sum(0, 40, 50, 0);
        undo(0, DONE);
        arrowBothWays(50, true);
        newReader();
        save(0, DONE);
        next(0, 40, 64);
        undo(0, DONE);
        arrowBothWays(63, true);
    }

    // Session 1, open since before session 0's commit, reads the key and writes what 0 has read.
    private static void writeSetOf0Has(int key, boolean has) {
        read(0, ARROW_KEY, ABSENT);
        begin(1, true, DONE);
        read(1, key, key == 20 || key == 30 ? key + 100 : ABSENT);
        commit(0, DONE);
        write(1, ARROW_KEY, DONE);
        commit(1, has ? FAILURE : DONE);
    }

    private static void setsAreWhatTheyWereThen() {
        sentence = "its READ SET and WRITE SET (the keys of its writes that were not undone) are what they were then";
        for (int key : new int[] {0, 20, 31, 32, 63}) {
            newReader();
            write(0, key, DONE);
            writeSetOf0Has(key, true);
            newReader();
            save(0, DONE);
            write(0, key, DONE);
            undo(0, DONE);
            writeSetOf0Has(key, false);
            newReader();
            write(0, key, DONE);
            save(0, DONE);
            write(0, key, DONE);
            undo(0, DONE);
            writeSetOf0Has(key, true);
        }
        newReader();
        writesOf(0, 40, 12);
        writeSetOf0Has(40, true);
        newReader();
        writesOf(0, 40, 12);
        writeSetOf0Has(51, true);
        newReader();
        writesOf(0, 40, 12);
        write(0, 52, FULL);
        writeSetOf0Has(52, false);
    }

    // A later transaction of the same session has sets of its own.
    private static void setsStayWhenTheSessionGoesOn() {
        sentence = "its READ SET and WRITE SET (the keys of its writes that were not undone) are what they were then";
        newStore(6);
        begin(0, true, DONE);
        begin(1, true, DONE);
        read(0, 10, ABSENT);
        write(0, 11, DONE);
        commit(0, DONE);
        begin(0, true, DONE);
        read(0, 12, ABSENT);
        write(0, 13, DONE);
        rollback(0, DONE);
        read(1, 11, ABSENT);
        write(1, 10, DONE);
        commit(1, FAILURE);
        begin(0, true, DONE);
        begin(1, true, DONE);
        read(0, 20, ABSENT);
        write(0, 21, DONE);
        commit(0, DONE);
        begin(0, true, DONE);
        read(0, 22, ABSENT);
        write(0, 23, DONE);
        read(1, 23, ABSENT);
        write(1, 22, DONE);
        commit(1, DONE);
    }

    private static void concurrentByNumbers() {
        sentence = "Two transactions are CONCURRENT if the START of each is less than the number of the other's commit";
        // Commit 1 of session 0; session 1 has START 0, session 2 has START 1.
        newStore(6);
        begin(0, true, DONE);
        begin(1, true, DONE);
        commit(0, DONE);
        count(2, 1);
        begin(2, true, DONE);
        rollback(1, DONE);
        count(2, 0);
        // The same after some commits, which are not serializable.
        commitsOfNothing(0, false, 3);
        begin(0, true, DONE);
        begin(1, true, DONE);
        rollback(2, DONE);
        commit(0, DONE);
        count(2, 1);
        begin(2, true, DONE);
        rollback(1, DONE);
        count(2, 0);
    }

    // The second of two transactions begins right before or right after the first one's commit.
    private static void arrowFromTheFirst(boolean before) {
        newStore(6);
        begin(3, true, DONE);
        begin(0, true, DONE);
        read(0, 10, ABSENT);
        write(0, 11, DONE);
        read(3, 11, ABSENT);
        if (before) {
            begin(1, true, DONE);
        }
        commit(0, DONE);
        if (!before) {
            begin(1, true, DONE);
        }
        // 3 -> 0 stands when 3 commits; 0 -> 1 needs that they are concurrent.
        commit(3, DONE);
        write(1, 10, DONE);
        commit(1, before ? FAILURE : DONE);
    }

    private static void arrowToTheFirst(boolean before) {
        newStore(6);
        begin(3, true, DONE);
        begin(0, true, DONE);
        write(0, 11, DONE);
        if (before) {
            begin(1, true, DONE);
        }
        commit(0, DONE);
        if (!before) {
            begin(1, true, DONE);
        }
        read(1, 11, before ? ABSENT : 111);
        write(1, 12, DONE);
        read(3, 12, ABSENT);
        // 1 -> 0 needs that they are concurrent; 3 -> 1 stands.
        commit(1, DONE);
        commit(3, before ? FAILURE : DONE);
    }

    private static void arrowsNeedConcurrent() {
        sentence = "Two transactions are CONCURRENT if the START of each is less than the number of the other's commit";
        arrowFromTheFirst(true);
        arrowFromTheFirst(false);
        arrowToTheFirst(true);
        arrowToTheFirst(false);
    }

    private static void openOnesHaveTheNextNumber() {
        sentence = "for one that has not committed yet, the next number counts as that of its commit";
        newStore(6);
        begin(3, true, DONE);
        commitsOfNothing(0, true, 1);
        count(2, 1);
        // Session 3 is as concurrent with the newest commit as with the oldest one.
        commitsOfNothing(1, false, 2);
        commitsOfNothing(0, true, 1);
        count(2, 2);
        begin(2, true, DONE);
        count(2, 2);
        rollback(3, DONE);
        count(2, 0);
    }

    private static void skew(boolean serializable0, boolean serializable1, int want) {
        newStore(6);
        begin(0, serializable0, DONE);
        begin(1, serializable1, DONE);
        read(0, 1, ABSENT);
        read(1, 0, ABSENT);
        write(0, 0, DONE);
        write(1, 1, DONE);
        commit(0, DONE);
        commit(1, want);
    }

    private static void arrowsAreOfSerializableOnes() {
        sentence = "both are serializable, different, CONCURRENT, and a key in T1's read set is in T2's write set";
        skew(true, true, FAILURE);
        skew(true, false, DONE);
        skew(false, true, DONE);
        skew(false, false, DONE);
        // Different: the own key, read and then written, joins nothing to itself.
        newStore(6);
        begin(0, true, DONE);
        begin(1, true, DONE);
        read(0, 5, ABSENT);
        write(0, 5, DONE);
        read(1, 5, ABSENT);
        commit(0, DONE);
        commit(1, DONE);
        // Two that read the same key, and two that read and write keys side by side, have no arrow.
        newStore(6);
        begin(0, true, DONE);
        begin(1, true, DONE);
        sum(0, 0, 31, 0);
        sum(1, 0, 31, 0);
        write(0, 32, DONE);
        write(1, 33, DONE);
        commit(0, DONE);
        commit(1, DONE);
    }

    private static void tracked() {
        sentence = "A committed serializable transaction is TRACKED if it is CONCURRENT with some open serializable transaction.";
        newStore(6);
        begin(0, true, DONE);
        count(2, 0);
        commit(0, DONE);
        count(2, 0);
        begin(0, false, DONE);
        commitsOfNothing(1, true, 1);
        count(2, 0);
        begin(2, true, DONE);
        commitsOfNothing(1, false, 1);
        count(2, 0);
        begin(1, true, DONE);
        rollback(1, DONE);
        count(2, 0);
        commitsOfNothing(1, true, 1);
        count(2, 1);
        begin(3, true, DONE);
        count(2, 1);
        commitsOfNothing(1, true, 1);
        count(2, 2);
        // One that both of the open ones keep counts once, and stays with either.
        commit(2, DONE);
        count(2, 2);
        rollback(3, DONE);
        count(2, 0);
    }

    private static void eachCallWith(int session, int key) {
        read(session, key, NONE);
        next(session, key, REFUSED);
        sum(session, key, 63, NONE);
        sum(session, 0, key, NONE);
        sum(session, key, key, NONE);
        write(session, key, 1, true, REFUSED);
        write(session, key, 1, false, REFUSED);
        seen(session, key, false);
    }

    private static void keysOutOfRange() {
        sentence = "a session or key out of range ... answers REFUSED (NONE if the answer is a long) and changes nothing";
        for (int key : WRONG_KEYS) {
            newReader();
            put(2, 0);
            put(2, 63);
            rollback(0, DONE);
            begin(0, true, DONE);
            write(0, 31, DONE);
            save(0, DONE);
            String before = picture();
            eachCallWith(0, key);
            row(key, NONE);
            unchanged(before);
            undo(0, DONE);
            rollback(0, DONE);
            // Nothing was read: neither the keys at the ends nor the ones that a mask would wrap to.
            for (int edge : EDGE_KEYS) {
                newReader();
                eachCallWith(0, key);
                arrowBothWays(edge, false);
            }
        }
    }

    private static void eachCallOfSession(int session) {
        eachCallWith(session, 0);
        eachCallWith(session, 63);
        eachCallWith(session, 64);
        sum(session, 2, 1, NONE);
        save(session, REFUSED);
        undo(session, REFUSED);
        commit(session, REFUSED);
        rollback(session, REFUSED);
        savepoints(session, REFUSED);
    }

    private static void sessionsOutOfRange() {
        sentence = "a session or key out of range ... answers REFUSED (NONE if the answer is a long) and changes nothing";
        for (int session : WRONG_SESSIONS) {
            newStore(6);
            put(0, 0);
            put(0, 63);
            for (int other = 0; other < 4; other++) {
                begin(other, other > 1, DONE);
                write(other, 20 + other, DONE);
                save(other, DONE);
            }
            String before = picture();
            begin(session, true, REFUSED);
            begin(session, false, REFUSED);
            eachCallOfSession(session);
            unchanged(before);
            crash(0);
            begin(session, true, REFUSED);
            eachCallOfSession(session);
        }
    }

    private static void sessionsWithoutATransaction() {
        sentence = "a session without an open transaction where one is needed (all calls with a session but begin)";
        for (int session = 0; session < 4; session++) {
            newStore(6);
            eachCallOfSession(session);
            put(session, 0);
            eachCallOfSession(session);
            begin(session, true, DONE);
            write(session, 63, DONE);
            save(session, DONE);
            rollback(session, DONE);
            int other = (session + 1) % 4;
            begin(other, true, DONE);
            write(other, 31, DONE);
            save(other, DONE);
            String before = picture();
            eachCallOfSession(session);
            unchanged(before);
            crash(0);
            eachCallOfSession(other);
            begin(session, true, DONE);
            read(session, 0, ABSENT);
        }
    }

    private static void sessionsThatFailedHaveNoTransaction() {
        sentence = "a session without an open transaction where one is needed (all calls with a session but begin)";
        newStore(6);
        begin(0, false, DONE);
        put(1, 5);
        write(0, 5, CONFLICT);
        eachCallOfSession(0);
        skew(true, true, FAILURE);
        eachCallOfSession(1);
        newTracked(8);
        begin(0, true, DONE);
        commit(0, FULL);
        eachCallOfSession(0);
    }

    private static void numbersAreTestedFirst() {
        sentence = "Every call tests its numbers first";
        newStore(6);
        begin(0, true, DONE);
        writesOf(0, 0, 12);
        // Each would be answered otherwise if the number were good.
        write(0, 64, 1, true, REFUSED);
        write(0, -1, 1, true, REFUSED);
        sum(0, 64, 0, NONE);
        sum(0, 63, -1, NONE);
        sum(1, 5, 4, NONE);
        undo(1, REFUSED);
        undo(-1, REFUSED);
        write(1, 0, 1, true, REFUSED);
        write(4, 0, 1, true, REFUSED);
        begin(4, true, REFUSED);
        count(3, 12);
        savepoints(0, 0);
    }

    // ---- Promise 1

    private static void groupIs(int given, int group) {
        newStore(given);
        commitsOfNothing(0, false, group - 1);
        count(1, 0);
        commitsOfNothing(0, false, 1);
        count(1, group);
    }

    private static void groupIsClamped() {
        sentence = "group: GROUP, clamped to 2 .. 6.";
        groupIs(MIN, 2);
        groupIs(-1, 2);
        groupIs(0, 2);
        groupIs(1, 2);
        groupIs(2, 2);
        groupIs(3, 3);
        groupIs(4, 4);
        groupIs(5, 5);
        groupIs(6, 6);
        groupIs(7, 6);
        groupIs(MAX, 6);
    }

    // ---- Promise 2

    private static void beginOfAnOpenOne() {
        sentence = "The session has an open one: REFUSED.";
        for (int session = 0; session < 4; session++) {
            newStore(6);
            begin(session, false, DONE);
            write(session, 31, DONE);
            save(session, DONE);
            put((session + 1) % 4, 0);
            String before = picture();
            begin(session, false, REFUSED);
            begin(session, true, REFUSED);
            unchanged(before);
            // START has stayed, and it is still not serializable.
            read(session, 0, ABSENT);
            commitsOfNothing((session + 1) % 4, true, 1);
            count(2, 0);
            write(session, 0, CONFLICT);
            begin(session, true, DONE);
            begin(session, false, REFUSED);
            commitsOfNothing((session + 1) % 4, true, 1);
            count(2, 1);
            read(session, 0, 100);
        }
    }

    private static void refusedBeginKeepsTheReadSet() {
        sentence = "The session has an open one: REFUSED.";
        newReader();
        read(0, 40, ABSENT);
        begin(0, true, REFUSED);
        begin(0, false, REFUSED);
        arrowBothWays(40, true);
    }

    // ---- Promise 3

    private static void readOfAnAbsentRow() {
        sentence = "The value that the transaction sees, or ABSENT.";
        newStore(6);
        put(0, 62);
        begin(0, false, DONE);
        read(0, 61, ABSENT);
        read(0, 62, 162);
        read(0, 63, ABSENT);
        write(0, 62, 0, false, DONE);
        write(0, 63, 0, true, DONE);
        read(0, 62, ABSENT);
        read(0, 63, 0);
    }

    // ---- Promise 4

    private static void nextAnswers() {
        sentence = "Answers that least key, or 64.";
        newReader();
        next(0, 0, 20);
        next(0, 19, 20);
        next(0, 20, 20);
        next(0, 21, 30);
        next(0, 30, 30);
        next(0, 31, 64);
        next(0, 63, 64);
        write(0, 0, DONE);
        write(0, 63, DONE);
        next(0, 0, 0);
        next(0, 31, 63);
        next(0, 63, 63);
        write(0, 30, 0, false, DONE);
        next(0, 21, 63);
        newStore(2);
        begin(3, true, DONE);
        next(3, 0, 64);
    }

    private static void nextReads(int from, int key, boolean reads) {
        newReader();
        x.next(0, from);
        arrowBothWays(key, reads);
    }

    private static void nextReadsUpToTheLeastKey() {
        sentence = "READs all keys from the key on up to the least one whose row is there as the transaction sees it, that one too";
        nextReads(10, 9, false);
        nextReads(10, 10, true);
        nextReads(10, 19, true);
        nextReads(10, 20, true);
        nextReads(10, 21, false);
        nextReads(20, 19, false);
        nextReads(20, 20, true);
        nextReads(20, 21, false);
        // As the transaction sees it: an own row stops it, a row that is newer doesn't.
        newReader();
        write(0, 15, DONE);
        next(0, 10, 15);
        arrowBothWays(16, false);
        newReader();
        write(0, 20, 0, false, DONE);
        next(0, 10, 30);
        arrowBothWays(29, true);
        newReader();
        put(2, 15);
        next(0, 10, 20);
        arrowBothWays(19, true);
    }

    private static void nextReadsUpTo63() {
        sentence = "(up to 63 if there is none)";
        nextReads(31, 30, false);
        nextReads(31, 31, true);
        nextReads(31, 32, true);
        nextReads(31, 62, true);
        nextReads(31, 63, true);
        nextReads(62, 61, false);
        nextReads(62, 63, true);
        nextReads(63, 62, false);
        nextReads(63, 63, true);
        nextReads(63, 0, false);
    }

    // ---- Promise 5

    private static void sumOfKeysInRange() {
        sentence = "READs all keys low .. high (both 0 .. 63, else NONE; no key if low is more than high)";
        newReader();
        write(0, 0, 1, true, DONE);
        write(0, 63, 2, true, DONE);
        sum(0, 0, 63, 253);
        sum(0, -1, 63, NONE);
        sum(0, 0, 64, NONE);
        sum(0, -1, 64, NONE);
        sum(0, MIN, 63, NONE);
        sum(0, 0, MAX, NONE);
        sum(0, 64, 63, NONE);
        sum(0, 0, -1, NONE);
        sum(0, 64, 64, NONE);
        sum(0, -1, -1, NONE);
        sum(0, 20, 20, 120);
        sum(0, 20, 19, 0);
        sum(0, 63, 63, 2);
        sum(0, 63, 0, 0);
        sum(0, 0, 0, 1);
        sum(0, 1, 0, 0);
        sum(0, 19, 20, 120);
        sum(0, 20, 21, 120);
        sum(0, 21, 29, 0);
        sum(0, 20, 30, 250);
        sum(0, 21, 30, 130);
        sum(0, 20, 29, 120);
    }

    private static void sumReads(int low, int high, int key, boolean reads) {
        newReader();
        x.sum(0, low, high);
        arrowBothWays(key, reads);
    }

    private static void sumReadsItsKeys() {
        sentence = "READs all keys low .. high (both 0 .. 63, else NONE; no key if low is more than high)";
        sumReads(10, 40, 9, false);
        sumReads(10, 40, 10, true);
        sumReads(10, 40, 20, true);
        sumReads(10, 40, 25, true);
        sumReads(10, 40, 40, true);
        sumReads(10, 40, 41, false);
        sumReads(0, 59, 0, true);
        sumReads(61, 63, 63, true);
        sumReads(20, 20, 19, false);
        sumReads(20, 20, 20, true);
        sumReads(20, 20, 21, false);
        sumReads(20, 19, 19, false);
        sumReads(20, 19, 20, false);
        sumReads(63, 0, 0, false);
        sumReads(63, 0, 63, false);
        sumReads(-1, 10, 0, false);
        sumReads(-1, 10, 10, false);
        sumReads(10, 64, 10, false);
        sumReads(10, 64, 63, false);
    }

    private static void putEverywhere(int value) {
        newStore(6);
        for (int key = 0; key < 64; key++) {
            if (key % 12 == 0) {
                begin(0, false, DONE);
            }
            write(0, key, value, true, DONE);
            if (key % 12 == 11 || key == 63) {
                commit(0, DONE);
            }
        }
        begin(1, true, DONE);
    }

    private static void sumIsALong() {
        sentence = "The sum of the values that are there as the transaction sees them, as a long (0 for none).";
        putEverywhere(MAX);
        sum(1, 5, 5, MAX);
        sum(1, 5, 6, 2L * MAX);
        sum(1, 0, 63, 64L * MAX);
        putEverywhere(MIN);
        sum(1, 5, 5, MIN);
        sum(1, 5, 6, 2L * MIN);
        sum(1, 0, 63, 64L * MIN);
        write(1, 0, 0, false, DONE);
        sum(1, 0, 63, 63L * MIN);
        sum(1, 0, 0, 0);
        newStore(6);
        begin(1, true, DONE);
        sum(1, 0, 63, 0);
        write(1, 7, -1, true, DONE);
        write(1, 8, 1, true, DONE);
        sum(1, 0, 63, 0);
        sum(1, 0, 7, -1);
    }

    // ---- Promise 6

    private static void writeThereOrAbsent() {
        sentence = "present true: it is there with the value; else it is absent";
        newStore(6);
        begin(0, false, DONE);
        write(0, 0, 0, true, DONE);
        write(0, 63, 5, false, DONE);
        seen(0, 0, true);
        seen(0, 63, false);
        count(3, 2);
        commit(0, DONE);
        row(0, 0);
        row(63, ABSENT);
        begin(0, false, DONE);
        write(0, 0, 0, false, DONE);
        write(0, 63, 5, true, DONE);
        commit(0, DONE);
        row(0, ABSENT);
        row(63, 5);
    }

    private static void writeLocked() {
        sentence = "another open transaction has a write of the key that was not undone: LOCKED, nothing changes";
        for (int key : new int[] {0, 31, 32, 63}) {
            newStore(6);
            begin(0, true, DONE);
            begin(3, false, DONE);
            write(0, 5, DONE);
            save(0, DONE);
            write(3, key, DONE);
            String before = picture();
            write(0, key, 1, true, LOCKED);
            write(0, key, 1, false, LOCKED);
            unchanged(before);
            undo(0, DONE);
            count(3, 1);
            commit(0, DONE);
            // The call that found it locked has not locked it.
            write(3, key, DONE);
            commit(3, DONE);
            row(key, key + 100);
        }
    }

    private static void writeLockedReadsNothing() {
        sentence = "another open transaction has a write of the key that was not undone: LOCKED, nothing changes";
        newReader();
        begin(3, true, DONE);
        write(3, 40, DONE);
        write(0, 40, LOCKED);
        rollback(3, DONE);
        arrowBothWays(40, false);
    }

    private static void writeNotLocked() {
        sentence = "another open transaction has a write of the key that was not undone: LOCKED, nothing changes";
        newStore(6);
        for (int session = 0; session < 4; session++) {
            begin(session, true, DONE);
        }
        write(0, 5, DONE);
        write(0, 5, DONE);
        write(1, 4, DONE);
        write(1, 6, DONE);
        read(2, 7, ABSENT);
        write(1, 7, DONE);
        save(0, DONE);
        write(0, 5, DONE);
        undo(0, DONE);
        // One of its writes of the key is left.
        write(2, 5, LOCKED);
        rollback(0, DONE);
        write(2, 5, DONE);
        write(3, 5, LOCKED);
        crash(0);
        begin(3, true, DONE);
        write(3, 5, DONE);
        save(3, DONE);
        write(3, 9, DONE);
        undo(3, DONE);
        begin(0, true, DONE);
        write(0, 9, DONE);
        commit(3, DONE);
        begin(2, true, DONE);
        write(2, 5, DONE);
    }

    private static void writeLockedByEachSession() {
        sentence = "another open transaction has a write of the key that was not undone: LOCKED, nothing changes";
        for (int owner = 0; owner < 4; owner++) {
            newStore(6);
            for (int session = 0; session < 4; session++) {
                begin(session, session % 2 == 0, DONE);
            }
            write(owner, 40, 0, false, DONE);
            for (int session = 0; session < 4; session++) {
                write(session, 40, session == owner ? DONE : LOCKED);
            }
        }
    }

    private static void writeConflict() {
        sentence = "A commit with a number above START wrote the key: CONFLICT, and the transaction is rolled back";
        newStore(6);
        put(1, 10);
        begin(0, true, DONE);
        begin(2, true, DONE);
        write(0, 20, DONE);
        save(0, DONE);
        put(1, 11);
        // Number START is no conflict, START + 1 is one.
        write(0, 10, DONE);
        write(0, 11, CONFLICT);
        savepoints(0, REFUSED);
        count(3, 0);
        count(0, 2);
        row(20, ABSENT);
        row(10, 110);
        write(2, 20, DONE);
        write(2, 10, DONE);
        begin(0, true, DONE);
        write(0, 11, DONE);
        savepoints(0, 0);
        count(3, 1);
    }

    private static void writeConflictWithAnyLaterCommit() {
        sentence = "A commit with a number above START wrote the key: CONFLICT, and the transaction is rolled back";
        for (int key : new int[] {0, 63}) {
            for (int later = 0; later < 8; later += 7) {
                newStore(2);
                begin(0, false, DONE);
                put(1, key);
                commitsOfNothing(1, false, later);
                write(0, 5, DONE);
                write(0, key, 1, false, CONFLICT);
            }
        }
        // What a commit read, or undid before, it has not written.
        newStore(6);
        begin(0, false, DONE);
        begin(1, true, DONE);
        read(1, 10, ABSENT);
        save(1, DONE);
        write(1, 11, DONE);
        undo(1, DONE);
        write(1, 12, 0, false, DONE);
        commit(1, DONE);
        write(0, 10, DONE);
        write(0, 11, DONE);
        write(0, 12, CONFLICT);
        // A transaction whose own write of the key was undone.
        begin(0, false, DONE);
        save(0, DONE);
        write(0, 13, DONE);
        undo(0, DONE);
        put(1, 13);
        write(0, 13, CONFLICT);
    }

    private static void writeFull() {
        sentence = "The transaction has 12 writes: FULL, nothing changes.";
        newStore(6);
        begin(0, true, DONE);
        begin(1, true, DONE);
        save(0, DONE);
        writesOf(0, 20, 11);
        write(0, 31, DONE);
        String before = picture();
        write(0, 32, FULL);
        write(0, 31, 1, false, FULL);
        unchanged(before);
        read(0, 31, 131);
        // The key of the refused write is not locked, and the transaction is still open.
        write(1, 32, DONE);
        undo(0, DONE);
        write(0, 33, DONE);
        commit(0, DONE);
        row(33, 133);
        row(31, ABSENT);
        newReader();
        save(0, DONE);
        writesOf(0, 0, 12);
        write(0, 40, FULL);
        undo(0, DONE);
        arrowBothWays(40, false);
    }

    private static void writeInThisOrder() {
        sentence = "In this order: ... LOCKED, nothing changes. ... CONFLICT, ... FULL, nothing changes. Else DONE.";
        newStore(6);
        begin(0, false, DONE);
        put(1, 5);
        begin(1, false, DONE);
        write(1, 5, DONE);
        write(1, 6, DONE);
        write(0, 5, LOCKED);
        writesOf(0, 20, 12);
        write(0, 5, LOCKED);
        write(0, 6, LOCKED);
        write(0, 7, FULL);
        rollback(1, DONE);
        write(0, 6, FULL);
        write(0, 5, CONFLICT);
        savepoints(0, REFUSED);
    }

    // ---- Promise 7

    private static void saveFull() {
        sentence = "The transaction has 3 savepoints: FULL. Else one more, with the number of its writes that were not undone: DONE.";
        newStore(6);
        begin(0, true, DONE);
        write(0, 0, DONE);
        save(0, DONE);
        save(0, DONE);
        write(0, 1, DONE);
        save(0, DONE);
        write(0, 2, DONE);
        String before = picture();
        save(0, FULL);
        save(0, FULL);
        unchanged(before);
        undo(0, DONE);
        count(3, 2);
        save(0, DONE);
        save(0, FULL);
        undo(0, DONE);
        undo(0, DONE);
        count(3, 1);
        undo(0, DONE);
        count(3, 1);
        undo(0, FULL);
    }

    private static void saveAtTheEnds() {
        sentence = "The transaction has 3 savepoints: FULL. Else one more, with the number of its writes that were not undone: DONE.";
        newStore(6);
        begin(0, true, DONE);
        save(0, DONE);
        writesOf(0, 0, 12);
        save(0, DONE);
        write(0, 12, FULL);
        undo(0, DONE);
        count(3, 12);
        write(0, 12, FULL);
        undo(0, DONE);
        count(3, 0);
        // The number is of the writes that are left, not of all that were made.
        writesOf(0, 20, 2);
        save(0, DONE);
        write(0, 30, DONE);
        undo(0, DONE);
        count(3, 2);
        seen(0, 21, true);
        seen(0, 30, false);
    }

    // ---- Promise 8

    private static void undoFull() {
        sentence = "The transaction has no savepoint: FULL.";
        newStore(6);
        begin(0, true, DONE);
        undo(0, FULL);
        writesOf(0, 0, 3);
        String before = picture();
        undo(0, FULL);
        unchanged(before);
        save(0, DONE);
        undo(0, DONE);
        undo(0, FULL);
        unchanged(before);
        commit(0, DONE);
        row(2, 102);
        // The last transaction's savepoints are not the next one's.
        begin(0, true, DONE);
        save(0, DONE);
        commit(0, DONE);
        begin(0, true, DONE);
        undo(0, FULL);
    }

    private static void undoPlacesAbove() {
        sentence = "its writes with places above the last savepoint's number are undone, and that savepoint is gone: DONE";
        for (int kept = 0; kept <= 12; kept++) {
            newStore(6);
            begin(0, true, DONE);
            begin(1, true, DONE);
            writesOf(0, 0, kept);
            save(0, DONE);
            writesOf(0, kept, 12 - kept);
            count(3, 12);
            undo(0, DONE);
            savepoints(0, 0);
            count(3, kept);
            if (kept > 0) {
                seen(0, kept - 1, true);
                write(1, kept - 1, LOCKED);
            }
            seen(0, kept, false);
            write(1, kept, DONE);
            commit(0, DONE);
            for (int key = 0; key < 12; key++) {
                row(key, key < kept ? key + 100 : ABSENT);
            }
        }
    }

    // ---- Promise 9

    // 0 -> 1 -> 2, committed in the order given, so that each of the three is the last one once.
    private static void chain(int first, int second, int third) {
        newStore(6);
        for (int session = 0; session < 3; session++) {
            begin(session, true, DONE);
        }
        read(0, 10, ABSENT);
        write(1, 10, DONE);
        read(1, 11, ABSENT);
        write(2, 11, DONE);
        commit(first, DONE);
        commit(second, DONE);
        save(third, DONE);
        write(third, 40, DONE);
        commit(third, FAILURE);
        savepoints(third, REFUSED);
        count(3 + third, 0);
        count(0, 2);
        row(40, ABSENT);
        // Its locks are gone and it takes no part in later arrows.
        begin(3, true, DONE);
        write(3, 40, DONE);
        commit(3, DONE);
    }

    private static void commitFailure() {
        sentence = "there are T1 -> T2 and T2 -> T3, T1 and T3 different or the same, all committed: FAILURE, rolled back";
        chain(0, 1, 2);
        chain(0, 2, 1);
        chain(1, 0, 2);
        chain(1, 2, 0);
        chain(2, 0, 1);
        chain(2, 1, 0);
        skew(true, true, FAILURE);
        row(0, 100);
        row(1, ABSENT);
        count(0, 1);
    }

    private static void commitWithOneArrowOnly() {
        sentence = "there are T1 -> T2 and T2 -> T3, T1 and T3 different or the same, all committed: FAILURE, rolled back";
        // Two arrows into the same one, and two out of the same one, are no chain.
        newStore(6);
        for (int session = 0; session < 3; session++) {
            begin(session, true, DONE);
        }
        read(0, 10, ABSENT);
        read(1, 10, ABSENT);
        write(2, 10, DONE);
        commit(0, DONE);
        commit(2, DONE);
        commit(1, DONE);
        newStore(6);
        for (int session = 0; session < 3; session++) {
            begin(session, true, DONE);
        }
        sum(0, 10, 11, 0);
        write(1, 10, DONE);
        write(2, 11, DONE);
        commit(1, DONE);
        commit(0, DONE);
        commit(2, DONE);
    }

    private static void commitWhileOneIsOpen() {
        sentence = "there are T1 -> T2 and T2 -> T3, T1 and T3 different or the same, all committed: FAILURE, rolled back";
        for (int left = 0; left < 3; left++) {
            newStore(6);
            for (int session = 0; session < 3; session++) {
                begin(session, true, DONE);
            }
            read(0, 10, ABSENT);
            write(1, 10, DONE);
            read(1, 11, ABSENT);
            write(2, 11, DONE);
            commit((left + 1) % 3, DONE);
            commit((left + 2) % 3, DONE);
            rollback(left, DONE);
            count(0, 2);
        }
    }

    // 0 -> 1 -> 2, where 2 is tracked no more when 0 commits, and others have committed since.
    private static void commitFailureOverOneNoLongerTracked(int since) {
        newStore(6);
        begin(1, true, DONE);
        begin(2, true, DONE);
        read(1, 11, ABSENT);
        write(2, 11, DONE);
        commit(2, DONE);
        begin(0, true, DONE);
        read(0, 10, ABSENT);
        write(1, 10, DONE);
        commit(1, DONE);
        count(2, 1);
        commitsOfNothing(3, true, since);
        commit(0, FAILURE);
    }

    private static void commitFailureOverUntracked() {
        sentence = "there are T1 -> T2 and T2 -> T3, T1 and T3 different or the same, all committed: FAILURE, rolled back";
        for (int since = 0; since <= 7; since++) {
            commitFailureOverOneNoLongerTracked(since);
        }
    }

    private static void commitFull() {
        sentence = "8 or more committed serializable transactions ... are each CONCURRENT with some open serializable transaction other than this one: FULL, rolled back";
        newTracked(7);
        begin(0, true, DONE);
        write(0, 5, DONE);
        commit(0, DONE);
        count(2, 8);
        row(5, 105);
        begin(0, true, DONE);
        write(0, 6, DONE);
        save(0, DONE);
        commit(0, FULL);
        savepoints(0, REFUSED);
        count(3, 0);
        count(0, 8);
        count(2, 8);
        row(6, ABSENT);
        begin(1, false, DONE);
        write(1, 6, DONE);
        commit(1, DONE);
        begin(1, true, DONE);
        commit(1, FULL);
        rollback(3, DONE);
        commitsOfNothing(1, true, 1);
    }

    private static void commitFullCountsOthersOnly() {
        sentence = "8 or more committed serializable transactions ... are each CONCURRENT with some open serializable transaction other than this one: FULL, rolled back";
        newTracked(8);
        commit(3, DONE);
        // Of eight, seven are tracked for 3 and all for 1.
        newStore(6);
        begin(1, true, DONE);
        commitsOfNothing(0, true, 1);
        begin(3, true, DONE);
        commitsOfNothing(0, true, 7);
        count(2, 8);
        commit(1, DONE);
        count(2, 8);
        begin(1, true, DONE);
        commit(1, FULL);
        newStore(6);
        begin(1, true, DONE);
        commitsOfNothing(0, true, 1);
        begin(3, true, DONE);
        commitsOfNothing(0, true, 7);
        commit(3, FULL);
        count(2, 8);
        commit(1, DONE);
        // Four for 1 and 3, four more for both and for 2: each counts once.
        newTracked(4);
        begin(2, true, DONE);
        commitsOfNothing(0, true, 3);
        count(2, 7);
        commitsOfNothing(0, true, 1);
        begin(0, true, DONE);
        commit(0, FULL);
        rollback(3, DONE);
        count(2, 4);
        commitsOfNothing(0, true, 4);
        count(2, 8);
        begin(0, true, DONE);
        commit(0, FULL);
    }

    private static void commitFullNeedsSerializableOnes() {
        sentence = "8 or more committed serializable transactions ... are each CONCURRENT with some open serializable transaction other than this one: FULL, rolled back";
        newStore(6);
        begin(3, false, DONE);
        commitsOfNothing(0, true, 20);
        begin(2, true, DONE);
        commitsOfNothing(0, false, 20);
        commitsOfNothing(0, true, 8);
        count(2, 8);
        commitsOfNothing(0, false, 3);
        begin(0, true, DONE);
        commit(0, FULL);
        commit(3, DONE);
        commit(2, DONE);
        count(0, 53);
    }

    private static void commitFullForgotten() {
        sentence = "(forgotten ones not counted)";
        newStore(6);
        begin(3, true, DONE);
        commitsOfNothing(0, true, 5);
        crash(0);
        begin(3, true, DONE);
        count(2, 0);
        commitsOfNothing(0, true, 8);
        count(2, 8);
        begin(0, true, DONE);
        commit(0, FULL);
        crash(6);
        begin(3, true, DONE);
        commitsOfNothing(0, true, 8);
        begin(0, true, DONE);
        commit(0, FULL);
    }

    private static void commitFailureGoesFirst() {
        sentence = "FAILURE, rolled back. Serializable, and 8 or more ... FULL, rolled back.";
        newStore(6);
        begin(3, true, DONE);
        begin(1, true, DONE);
        read(1, 10, ABSENT);
        write(1, 11, DONE);
        begin(0, true, DONE);
        read(0, 11, ABSENT);
        write(0, 10, DONE);
        commit(0, DONE);
        commitsOfNothing(0, true, 7);
        count(2, 8);
        commit(1, FAILURE);
        begin(1, true, DONE);
        commit(1, FULL);
    }

    private static void commitOfNoWrites() {
        sentence = "Else it commits with the next number, also if it has no writes: DONE.";
        newStore(3);
        commitsOfNothing(0, false, 1);
        count(0, 1);
        commitsOfNothing(1, true, 1);
        count(0, 2);
        begin(0, true, DONE);
        save(0, DONE);
        write(0, 5, DONE);
        undo(0, DONE);
        commit(0, DONE);
        count(0, 3);
        count(1, 3);
        row(5, ABSENT);
        begin(0, true, DONE);
        writesOf(0, 0, 12);
        commit(0, DONE);
        count(0, 4);
        commit(0, REFUSED);
        count(0, 4);
    }

    // ---- Promise 10

    private static void rollbackHasNoEffect() {
        sentence = "Ends the transaction without effect: DONE.";
        newStore(2);
        put(1, 0);
        begin(3, true, DONE);
        String before = picture();
        begin(0, true, DONE);
        sum(0, 0, 63, 100);
        writesOf(0, 0, 12);
        save(0, DONE);
        rollback(0, DONE);
        unchanged(before);
        rollback(0, REFUSED);
        unchanged(before);
        // Neither its writes nor its reads are in anything's way.
        write(3, 0, DONE);
        commit(3, DONE);
        newStore(2);
        begin(0, true, DONE);
        rollback(0, DONE);
        count(0, 0);
    }

    // ---- Promise 11

    private static void syncAnswersAllCommits() {
        sentence = "All commits become durable. Answers how many commits there are.";
        newStore(6);
        sync(0);
        count(1, 0);
        put(0, 1);
        sync(1);
        count(1, 1);
        sync(1);
        commitsOfNothing(0, false, 5);
        count(1, 1);
        put(0, 2);
        count(1, 7);
        sync(7);
        begin(0, true, DONE);
        write(0, 3, DONE);
        sync(7);
        read(0, 3, 103);
        put(1, 4);
        sync(8);
        crash(8);
        row(1, 101);
        row(2, 102);
        row(3, ABSENT);
        row(4, 104);
    }

    // ---- Promise 12

    private static void crashLosesWhatIsNotDurable() {
        sentence = "the commits that are not durable are lost, as if they had never been";
        for (int made = 0; made <= 7; made++) {
            newStore(3);
            for (int key = 0; key < made; key++) {
                put(0, key);
            }
            int left = made - made % 3;
            crash(left);
            count(0, left);
            count(1, left);
            for (int key = 0; key < 8; key++) {
                row(key, key < left ? key + 100 : ABSENT);
            }
            crash(left);
            sync(left);
            // The lost numbers are given again.
            begin(1, false, DONE);
            put(0, 40);
            count(0, left + 1);
            write(1, 7, DONE);
            write(1, 40, CONFLICT);
        }
    }

    private static void crashBringsBackOldRows() {
        sentence = "the commits that are not durable are lost, as if they had never been";
        newStore(6);
        put(0, 0);
        put(0, 63);
        sync(2);
        begin(0, false, DONE);
        write(0, 0, 1, true, DONE);
        write(0, 63, 1, false, DONE);
        write(0, 31, 1, true, DONE);
        commit(0, DONE);
        row(0, 1);
        row(63, ABSENT);
        row(31, 1);
        crash(2);
        row(0, 100);
        row(63, 163);
        row(31, ABSENT);
        begin(0, false, DONE);
        read(0, 0, 100);
        read(0, 63, 163);
        next(0, 1, 63);
    }

    private static void crashRollsBackTheOpenOnes() {
        sentence = "All open transactions are rolled back";
        newStore(6);
        for (int session = 0; session < 4; session++) {
            begin(session, session < 2, DONE);
            write(session, session, DONE);
            save(session, DONE);
        }
        crash(0);
        for (int session = 0; session < 4; session++) {
            savepoints(session, REFUSED);
            count(3 + session, 0);
            row(session, ABSENT);
            commit(session, REFUSED);
        }
        begin(0, false, DONE);
        writesOf(0, 0, 4);
        savepoints(0, 0);
        newStore(6);
        crash(0);
    }

    private static void crashForgetsTheCommitted() {
        sentence = "committed transactions are all forgotten (none is TRACKED or one of T1, T2, T3 any more)";
        // Lost ones, whose numbers are above the STARTs to come.
        newStore(6);
        begin(0, true, DONE);
        begin(1, true, DONE);
        read(0, 10, ABSENT);
        write(0, 11, DONE);
        read(1, 11, ABSENT);
        commit(0, DONE);
        commit(1, DONE);
        crash(0);
        begin(2, true, DONE);
        begin(3, true, DONE);
        count(2, 0);
        read(2, 11, ABSENT);
        write(2, 10, DONE);
        commit(2, DONE);
        count(2, 1);
        // Durable ones.
        newTracked(8);
        sync(8);
        crash(8);
        count(2, 0);
        begin(3, true, DONE);
        count(2, 0);
        commitsOfNothing(0, true, 8);
        count(2, 8);
    }

    // ---- Promises 13 to 16

    private static void rowOutOfRange() {
        sentence = "The value of the row after the last commit, or ABSENT; for a key out of range NONE.";
        newStore(6);
        put(0, 0);
        put(0, 63);
        row(-1, NONE);
        row(0, 100);
        row(1, ABSENT);
        row(62, ABSENT);
        row(63, 163);
        row(64, NONE);
        row(MIN, NONE);
        row(MAX, NONE);
        // The last commit, durable or not, and no open transaction's writes.
        begin(0, false, DONE);
        write(0, 0, 5, true, DONE);
        row(0, 100);
        commit(0, DONE);
        row(0, 5);
    }

    private static void seenOutOfRange() {
        sentence = "False for numbers out of range.";
        newStore(6);
        put(0, 0);
        put(0, 63);
        for (int session = 0; session < 4; session++) {
            seen(session, 0, false);
            begin(session, true, DONE);
            seen(session, 0, true);
            seen(session, 63, true);
            for (int key : WRONG_KEYS) {
                seen(session, key, false);
            }
        }
        for (int session : WRONG_SESSIONS) {
            seen(session, 0, false);
            seen(session, 63, false);
            seen(session, 64, false);
        }
    }

    private static void seenReadsNothing() {
        sentence = "Whether the session's transaction is open and sees the row there; READs nothing.";
        for (int key : new int[] {20, 21}) {
            newReader();
            seen(0, key, key == 20);
            arrowBothWays(key, false);
        }
        newReader();
        put(1, 40);
        seen(0, 40, false);
        begin(1, true, DONE);
        seen(1, 40, true);
        rollback(1, DONE);
        seen(1, 40, false);
    }

    private static void savepointsRefused() {
        sentence = "The number of the session's savepoints; REFUSED.";
        newStore(6);
        for (int session = 0; session < 4; session++) {
            savepoints(session, REFUSED);
            begin(session, true, DONE);
            savepoints(session, 0);
            save(session, DONE);
            savepoints(session, 1);
            save(session, DONE);
            save(session, DONE);
            savepoints(session, 3);
            save(session, FULL);
            savepoints(session, 3);
        }
        for (int session : WRONG_SESSIONS) {
            savepoints(session, REFUSED);
        }
        commit(0, DONE);
        savepoints(0, REFUSED);
        begin(0, true, DONE);
        savepoints(0, 0);
        savepoints(1, 3);
    }

    private static void countOutOfRange() {
        sentence = "(3 .. 6, 0 if none is open); else REFUSED";
        newStore(6);
        for (int what = 0; what <= 6; what++) {
            count(what, 0);
        }
        for (int what : new int[] {-1, 7, 8, MIN, MAX}) {
            count(what, REFUSED);
        }
        begin(0, true, DONE);
        writesOf(0, 0, 12);
        count(3, 12);
        count(4, 0);
        begin(3, true, DONE);
        for (int place = 0; place < 12; place++) {
            write(3, 63, place, true, DONE);
        }
        count(6, 1);
        count(5, 0);
        commit(0, DONE);
        count(0, 1);
        count(1, 0);
        count(2, 1);
        count(3, 0);
        for (int what : new int[] {-1, 7, 8, MIN, MAX}) {
            count(what, REFUSED);
        }
        rollback(3, DONE);
        count(6, 0);
        count(2, 0);
    }

    private static void terms() {
        most512Calls();
        keys0To63();
        valuesAreInts();
        absentAtFirst();
        numberedFrom1();
        durableInGroups();
        onlyCommitsFillTheGroup();
        sessions0To3();
        sessionsStandAlone();
        startIsTheNumberOfCommits();
        seesOwnLastWrite();
        most12Writes();
        most12WritesOfOneKey();
        most3Savepoints();
        readSetIsEmptyAtFirst();
        readAddsEachKey();
        readOfAnOwnWriteAddsNothing();
        undoKeepsTheReadSet();
        setsAreWhatTheyWereThen();
        setsStayWhenTheSessionGoesOn();
        concurrentByNumbers();
        arrowsNeedConcurrent();
        openOnesHaveTheNextNumber();
        arrowsAreOfSerializableOnes();
        tracked();
        keysOutOfRange();
        sessionsOutOfRange();
        sessionsWithoutATransaction();
        sessionsThatFailedHaveNoTransaction();
        numbersAreTestedFirst();
    }

    private static void promises1To8() {
        groupIsClamped();
        beginOfAnOpenOne();
        refusedBeginKeepsTheReadSet();
        readOfAnAbsentRow();
        nextAnswers();
        nextReadsUpToTheLeastKey();
        nextReadsUpTo63();
        sumOfKeysInRange();
        sumReadsItsKeys();
        sumIsALong();
        writeThereOrAbsent();
        writeLocked();
        writeLockedReadsNothing();
        writeNotLocked();
        writeLockedByEachSession();
        writeConflict();
        writeConflictWithAnyLaterCommit();
        writeFull();
        writeInThisOrder();
        saveFull();
        saveAtTheEnds();
        undoFull();
        undoPlacesAbove();
    }

    private static void promises9To16() {
        commitFailure();
        commitWithOneArrowOnly();
        commitWhileOneIsOpen();
        commitFailureOverUntracked();
        commitFull();
        commitFullCountsOthersOnly();
        commitFullNeedsSerializableOnes();
        commitFullForgotten();
        commitFailureGoesFirst();
        commitOfNoWrites();
        rollbackHasNoEffect();
        syncAnswersAllCommits();
        crashLosesWhatIsNotDurable();
        crashBringsBackOldRows();
        crashRollsBackTheOpenOnes();
        crashForgetsTheCommitted();
        rowOutOfRange();
        seenOutOfRange();
        seenReadsNothing();
        savepointsRefused();
        countOutOfRange();
    }

    public static void main(String[] args) {
        terms();
        promises1To8();
        promises9To16();
        System.out.println(wrong == 0 ? "all boundary cases hold" : wrong + " answers are not as due");
        if (wrong != 0) {
            System.exit(1);
        }
    }
}
