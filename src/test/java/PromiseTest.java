// Each promise of the document in turn: ordinary inputs, the edges it names, wrong inputs.
public final class PromiseTest {
    private static final int REFUSED = SerializableStore.REFUSED;
    private static final int DONE = SerializableStore.DONE;
    private static final int LOCKED = SerializableStore.LOCKED;
    private static final int CONFLICT = SerializableStore.CONFLICT;
    private static final int FAILURE = SerializableStore.FAILURE;
    private static final int FULL = SerializableStore.FULL;
    private static final long ABSENT = SerializableStore.ABSENT;
    private static final long NONE = SerializableStore.NONE;
    private static final int[] BAD_SESSIONS = {-1, 4, 63, Integer.MIN_VALUE, Integer.MAX_VALUE};
    private static final int[] BAD_KEYS = {-1, 64, 65, Integer.MIN_VALUE, Integer.MAX_VALUE};

    private static String test = "";
    private static int wrong = 0;

    private static void due(String call, long got, long want) {
        if (got != want) {
            wrong++;
            System.out.println(test + ": " + call + " answered " + got + ", due is " + want);
        }
    }

    private static void due(String call, boolean got, boolean want) {
        due(call, got ? 1L : 0L, want ? 1L : 0L);
    }

    private static void commitEmpty(SerializableStore x, int session) {
        due("begin", x.begin(session, false), DONE);
        due("commit of no writes", x.commit(session), DONE);
    }

    // Commits one row at once, outside of all arrows.
    private static void put(SerializableStore x, int session, int key, int value) {
        due("begin to put", x.begin(session, false), DONE);
        due("write to put", x.write(session, key, value, true), DONE);
        due("commit to put", x.commit(session), DONE);
    }

    private static void groupIs(int given, int group) {
        SerializableStore x = new SerializableStore(given);
        for (int made = 1; made < group; made++) {
            commitEmpty(x, 0);
            due("durable of " + made + " with group " + given, x.count(1), 0);
        }
        commitEmpty(x, 0);
        due("durable of " + group + " with group " + given, x.count(1), group);
        commitEmpty(x, 0);
        due("durable of one more with group " + given, x.count(1), group);
    }

    private static void promise1NewObject() {
        test = "promise 1";
        SerializableStore x = new SerializableStore(4);
        for (int key = 0; key < 64; key++) {
            due("row of a new object", x.row(key), ABSENT);
        }
        for (int what = 0; what < 7; what++) {
            due("count of a new object", x.count(what), 0);
        }
        for (int session = 0; session < 4; session++) {
            due("savepoints of a new object", x.savepoints(session), REFUSED);
        }
        due("crash of a new object", x.crash(), 0);
        for (int key = 0; key < 64; key++) {
            due("row after that crash", x.row(key), ABSENT);
        }
        for (int group = 2; group <= 6; group++) {
            groupIs(group, group);
        }
        groupIs(1, 2);
        groupIs(0, 2);
        groupIs(-1, 2);
        groupIs(Integer.MIN_VALUE, 2);
        groupIs(7, 6);
        groupIs(Integer.MAX_VALUE, 6);
        SerializableStore other = new SerializableStore(4);
        put(x, 0, 1, 1);
        due("row of another object", other.row(1), ABSENT);
    }

    private static void promise2Begin() {
        test = "promise 2";
        SerializableStore x = new SerializableStore(6);
        for (int session = 0; session < 4; session++) {
            due("begin", x.begin(session, session % 2 == 0), DONE);
            due("begin again", x.begin(session, true), REFUSED);
            due("begin again", x.begin(session, false), REFUSED);
        }
        for (int session : BAD_SESSIONS) {
            due("begin of no session", x.begin(session, true), REFUSED);
            due("begin of no session", x.begin(session, false), REFUSED);
        }
        due("write", x.write(0, 1, 5, true), DONE);
        due("save", x.save(0), DONE);
        due("refused begin", x.begin(0, true), REFUSED);
        due("savepoints after the refused begin", x.savepoints(0), 1);
        due("read after the refused begin", x.read(0, 1), 5);
        due("rollback", x.rollback(0), DONE);
        due("begin after rollback", x.begin(0, true), DONE);
        due("the new one has no savepoints", x.savepoints(0), 0);
        due("the new one has no writes", x.count(3), 0);
        due("the new one sees no old write", x.read(0, 1), ABSENT);
        due("commit", x.commit(0), DONE);
        due("begin after commit", x.begin(0, false), DONE);
    }

    // A refused begin must not turn a plain transaction into a serializable one, or move its START.
    private static void promise2RefusedBeginChangesNothing() {
        test = "promise 2, refused begin";
        SerializableStore x = new SerializableStore(6);
        due("begin", x.begin(0, false), DONE);
        due("refused", x.begin(0, true), REFUSED);
        due("begin", x.begin(1, true), DONE);
        due("commit", x.commit(1), DONE);
        due("tracked", x.count(2), 0);
        put(x, 2, 9, 9);
        due("refused", x.begin(0, true), REFUSED);
        due("read of the old snapshot", x.read(0, 9), ABSENT);
        due("write of a row that is newer", x.write(0, 9, 1, true), CONFLICT);
    }

    private static void promise3Read() {
        test = "promise 3";
        SerializableStore x = new SerializableStore(3);
        put(x, 0, 0, 10);
        put(x, 0, 63, Integer.MIN_VALUE);
        due("begin", x.begin(1, false), DONE);
        due("read", x.read(1, 0), 10);
        due("read", x.read(1, 63), Integer.MIN_VALUE);
        due("read of an absent row", x.read(1, 62), ABSENT);
        put(x, 0, 0, 11);
        put(x, 0, 5, 12);
        due("read stays on the snapshot", x.read(1, 0), 10);
        due("read stays on the snapshot", x.read(1, 5), ABSENT);
        due("write of another session", x.begin(2, false), DONE);
        due("write of another session", x.write(2, 7, 70, true), DONE);
        due("read of a row that another one writes", x.read(1, 7), ABSENT);
        due("own write", x.write(1, 6, 1, true), DONE);
        due("own write", x.write(1, 6, 2, true), DONE);
        due("read of the last own write", x.read(1, 6), 2);
        due("own write", x.write(1, 6, 3, false), DONE);
        due("read of a row made absent", x.read(1, 6), ABSENT);
        for (int session : BAD_SESSIONS) {
            due("read of no session", x.read(session, 0), NONE);
        }
        for (int key : BAD_KEYS) {
            due("read of no key", x.read(1, key), NONE);
        }
        due("read without a transaction", x.read(3, 0), NONE);
        due("commit of a reader", x.commit(1), DONE);
        due("read after commit", x.read(1, 0), NONE);
        due("begin", x.begin(1, false), DONE);
        due("read on a new snapshot", x.read(1, 0), 11);
        due("read on a new snapshot", x.read(1, 5), 12);
    }

    // Whether session 0 has read the key: with arrows to and from session 1 its commit fails.
    private static void readSetHas(SerializableStore x, int key, boolean has) {
        due("the reader writes 60", x.write(0, 60, 1, true), DONE);
        due("begin of the other one", x.begin(1, true), DONE);
        due("the other one reads 60", x.read(1, 60), ABSENT);
        due("the other one writes the key " + key, x.write(1, key, 1, true), DONE);
        due("commit of the other one", x.commit(1), DONE);
        due("commit of the reader of key " + key, x.commit(0), has ? FAILURE : DONE);
    }

    private static SerializableStore reader() {
        SerializableStore x = new SerializableStore(6);
        put(x, 2, 20, 7);
        put(x, 2, 30, 8);
        due("begin of the reader", x.begin(0, true), DONE);
        return x;
    }

    private static void promise3ReadSet() {
        test = "promise 3, read set";
        SerializableStore x = reader();
        x.read(0, 40);
        readSetHas(x, 40, true);
        x = reader();
        x.read(0, 40);
        readSetHas(x, 41, false);
        x = reader();
        x.read(0, 0);
        readSetHas(x, 0, true);
        x = reader();
        x.read(0, 63);
        readSetHas(x, 63, true);
        x = reader();
        x.read(0, 31);
        readSetHas(x, 63, false);
        x = reader();
        x.read(0, -1);
        x.read(0, 64);
        readSetHas(x, 63, false);
        x = reader();
        due("seen", x.seen(0, 20), true);
        readSetHas(x, 20, false);
        x = reader();
        x.row(20);
        readSetHas(x, 20, false);
    }

    private static void promise3ReadSetAndOwnWrites() {
        test = "promise 3, read set and own writes";
        // Read while there is an own write, which is undone later: not in the read set.
        SerializableStore x = reader();
        x.save(0);
        x.write(0, 40, 1, true);
        due("read of an own write", x.read(0, 40), 1);
        x.undo(0);
        readSetHas(x, 40, false);
        // The same with an own write that makes the row absent.
        x = reader();
        x.save(0);
        x.write(0, 20, 1, false);
        due("read of a row made absent", x.read(0, 20), ABSENT);
        x.undo(0);
        readSetHas(x, 20, false);
        // Read after the own write was undone: in the read set.
        x = reader();
        x.save(0);
        x.write(0, 40, 1, true);
        x.undo(0);
        x.read(0, 40);
        readSetHas(x, 40, true);
        // Read before a savepoint and an own write: undo takes nothing out.
        x = reader();
        x.save(0);
        x.read(0, 40);
        x.write(0, 40, 1, true);
        x.undo(0);
        readSetHas(x, 40, true);
        // One of two own writes is left: still not read.
        x = reader();
        x.write(0, 40, 1, true);
        x.save(0);
        x.write(0, 40, 2, true);
        x.undo(0);
        due("read of the write that is left", x.read(0, 40), 1);
        x.rollback(0);
    }

    private static void promise4Next() {
        test = "promise 4";
        SerializableStore x = reader();
        due("next", x.next(0, 0), 20);
        due("next from the row itself", x.next(0, 20), 20);
        due("next", x.next(0, 21), 30);
        due("next with none", x.next(0, 31), 64);
        due("next of the last key", x.next(0, 63), 64);
        due("write", x.write(0, 63, 0, true), DONE);
        due("next of an own write", x.next(0, 31), 63);
        due("next of the last key", x.next(0, 63), 63);
        due("write", x.write(0, 20, 0, false), DONE);
        due("next over an own absent row", x.next(0, 0), 30);
        put(x, 1, 5, 5);
        due("next stays on the snapshot", x.next(0, 0), 30);
        for (int session : BAD_SESSIONS) {
            due("next of no session", x.next(session, 0), REFUSED);
        }
        for (int key : BAD_KEYS) {
            due("next of no key", x.next(0, key), REFUSED);
        }
        due("next without a transaction", x.next(1, 0), REFUSED);
    }

    private static void promise4NextOfEachSession() {
        test = "promise 4, each session";
        SerializableStore x = new SerializableStore(6);
        due("begin", x.begin(3, true), DONE);
        put(x, 0, 0, 1);
        for (int session = 0; session < 3; session++) {
            due("begin", x.begin(session, true), DONE);
        }
        for (int session = 0; session < 4; session++) {
            due("next of session " + session, x.next(session, 0), session == 3 ? 64 : 0);
            due("next of session " + session, x.next(session, 1), 64);
            due("next of session " + session, x.next(session, 63), 64);
        }
    }

    private static void nextReads(int from, int key, boolean has) {
        SerializableStore x = reader();
        x.next(0, from);
        readSetHas(x, key, has);
    }

    private static void promise4NextReads() {
        test = "promise 4, read set";
        nextReads(10, 9, false);
        nextReads(10, 10, true);
        nextReads(10, 15, true);
        nextReads(10, 20, true);
        nextReads(10, 21, false);
        nextReads(20, 20, true);
        nextReads(20, 21, false);
        nextReads(31, 30, false);
        nextReads(31, 31, true);
        nextReads(31, 63, true);
        nextReads(63, 63, true);
        nextReads(64, 63, false);
        // Keys with an own write on the way are not read, nor is the own one it stops at.
        SerializableStore x = reader();
        x.save(0);
        x.write(0, 12, 0, false);
        x.write(0, 14, 0, true);
        due("next", x.next(0, 10), 14);
        x.undo(0);
        readSetHas(x, 12, false);
        x = reader();
        x.save(0);
        x.write(0, 12, 0, false);
        x.write(0, 14, 0, true);
        x.next(0, 10);
        x.undo(0);
        readSetHas(x, 14, false);
        x = reader();
        x.save(0);
        x.write(0, 12, 0, false);
        x.write(0, 14, 0, true);
        x.next(0, 10);
        x.undo(0);
        readSetHas(x, 13, true);
    }

    private static void promise5Sum() {
        test = "promise 5";
        SerializableStore x = reader();
        due("sum", x.sum(0, 0, 63), 15);
        due("sum", x.sum(0, 20, 30), 15);
        due("sum", x.sum(0, 21, 30), 8);
        due("sum", x.sum(0, 20, 29), 7);
        due("sum of one key", x.sum(0, 20, 20), 7);
        due("sum of absent rows", x.sum(0, 0, 19), 0);
        due("sum with low above high", x.sum(0, 30, 20), 0);
        due("sum with low above high", x.sum(0, 63, 0), 0);
        due("write", x.write(0, 20, Integer.MAX_VALUE, true), DONE);
        due("write", x.write(0, 21, Integer.MAX_VALUE, true), DONE);
        due("write", x.write(0, 63, Integer.MAX_VALUE, true), DONE);
        due("sum above the ints", x.sum(0, 0, 63), 3L * Integer.MAX_VALUE + 8);
        due("write", x.write(0, 20, Integer.MIN_VALUE, true), DONE);
        due("write", x.write(0, 21, Integer.MIN_VALUE, true), DONE);
        due("write", x.write(0, 63, 0, false), DONE);
        due("sum below the ints", x.sum(0, 0, 63), 2L * Integer.MIN_VALUE + 8);
        put(x, 1, 5, 5);
        due("sum stays on the snapshot", x.sum(0, 0, 19), 0);
        for (int session : BAD_SESSIONS) {
            due("sum of no session", x.sum(session, 0, 1), NONE);
        }
        for (int key : BAD_KEYS) {
            due("sum from no key", x.sum(0, key, 3), NONE);
            due("sum to no key", x.sum(0, 3, key), NONE);
            due("sum of no keys", x.sum(0, key, key), NONE);
        }
        due("sum without a transaction", x.sum(1, 0, 1), NONE);
        due("sum without a transaction, low above high", x.sum(1, 2, 1), NONE);
    }

    private static void sumReads(int low, int high, int key, boolean has) {
        SerializableStore x = reader();
        x.sum(0, low, high);
        readSetHas(x, key, has);
    }

    private static void promise5SumReads() {
        test = "promise 5, read set";
        sumReads(10, 40, 9, false);
        sumReads(10, 40, 10, true);
        sumReads(10, 40, 25, true);
        sumReads(10, 40, 40, true);
        sumReads(10, 40, 41, false);
        sumReads(0, 63, 0, true);
        sumReads(0, 63, 63, true);
        sumReads(40, 10, 10, false);
        sumReads(40, 10, 40, false);
        sumReads(10, 64, 10, false);
        sumReads(-1, 10, 10, false);
        SerializableStore x = reader();
        x.save(0);
        x.write(0, 12, 0, true);
        x.sum(0, 10, 14);
        x.undo(0);
        readSetHas(x, 12, false);
    }

    private static void promise6Write() {
        test = "promise 6";
        SerializableStore x = new SerializableStore(6);
        due("begin", x.begin(0, false), DONE);
        due("begin", x.begin(1, true), DONE);
        due("write", x.write(0, 0, Integer.MIN_VALUE, true), DONE);
        due("write", x.write(0, 63, Integer.MAX_VALUE, true), DONE);
        due("write of another one's key", x.write(1, 0, 2, true), LOCKED);
        due("write of another one's key", x.write(1, 63, 2, false), LOCKED);
        due("nothing changed", x.count(4), 0);
        due("nothing changed", x.read(1, 0), ABSENT);
        due("row before the commit", x.row(0), ABSENT);
        due("commit", x.commit(0), DONE);
        due("row after the commit", x.row(0), Integer.MIN_VALUE);
        due("row after the commit", x.row(63), Integer.MAX_VALUE);
        due("write", x.write(1, 1, 2, true), DONE);
        due("write of a row that is newer", x.write(1, 0, 2, true), CONFLICT);
        due("it was rolled back", x.savepoints(1), REFUSED);
        due("it was rolled back", x.row(1), ABSENT);
        due("it was rolled back", x.count(0), 1);
        due("begin", x.begin(1, true), DONE);
        due("write of a row it has seen", x.write(1, 0, 2, false), DONE);
        due("commit", x.commit(1), DONE);
        due("row that was made absent", x.row(0), ABSENT);
        for (int session : BAD_SESSIONS) {
            due("write of no session", x.write(session, 0, 1, true), REFUSED);
        }
        due("begin", x.begin(2, false), DONE);
        for (int key : BAD_KEYS) {
            due("write of no key", x.write(2, key, 1, true), REFUSED);
        }
        due("nothing was written", x.count(5), 0);
        due("write without a transaction", x.write(1, 0, 1, true), REFUSED);
    }

    private static void promise6LockedBeforeConflict() {
        test = "promise 6, order of answers";
        SerializableStore x = new SerializableStore(6);
        due("begin", x.begin(0, false), DONE);
        put(x, 1, 5, 5);
        due("begin", x.begin(1, false), DONE);
        due("write", x.write(1, 5, 6, true), DONE);
        due("locked and newer", x.write(0, 5, 7, true), LOCKED);
        due("still open", x.savepoints(0), 0);
        for (int place = 0; place < 12; place++) {
            due("write", x.write(0, 10 + place, place, true), DONE);
        }
        due("locked, newer and full", x.write(0, 5, 7, true), LOCKED);
        due("full", x.write(0, 10, 7, true), FULL);
        due("full", x.write(0, 40, 7, true), FULL);
        due("nothing changed", x.read(0, 10), 0);
        due("nothing changed", x.count(3), 12);
        due("a key refused as full is not locked", x.write(1, 40, 7, true), DONE);
        due("rollback", x.rollback(1), DONE);
        due("newer and full", x.write(0, 5, 7, true), CONFLICT);
        due("rolled back", x.rollback(0), REFUSED);
        due("begin", x.begin(1, false), DONE);
        due("its locks are gone", x.write(1, 10, 1, true), DONE);
    }

    private static void promise6Locks() {
        test = "promise 6, locks";
        SerializableStore x = new SerializableStore(6);
        for (int session = 0; session < 4; session++) {
            due("begin", x.begin(session, false), DONE);
        }
        due("save", x.save(3), DONE);
        due("write", x.write(3, 8, 1, true), DONE);
        due("write by the same one", x.write(3, 8, 2, false), DONE);
        due("locked by an absent row too", x.write(0, 8, 1, true), LOCKED);
        due("undo", x.undo(3), DONE);
        due("an undone write locks nothing", x.write(0, 8, 1, true), DONE);
        due("the other way round", x.write(3, 8, 1, true), LOCKED);
        due("rollback", x.rollback(0), DONE);
        due("rolled back writes lock nothing", x.write(3, 8, 1, true), DONE);
        due("rollback", x.rollback(3), DONE);
        due("rolled back writes are no conflict", x.write(2, 8, 1, true), DONE);
        due("a read locks nothing", x.read(1, 9), ABSENT);
        due("a read locks nothing", x.write(2, 9, 1, true), DONE);
    }

    private static void promise6ConflictUsesNumbers() {
        test = "promise 6, conflicts";
        SerializableStore x = new SerializableStore(6);
        put(x, 0, 1, 1);
        due("begin", x.begin(0, false), DONE);
        put(x, 1, 2, 2);
        due("another row is newer", x.write(0, 1, 1, true), DONE);
        due("rollback", x.rollback(0), DONE);
        // A write that was undone before the commit is not the commit's.
        due("begin", x.begin(0, false), DONE);
        due("begin", x.begin(1, false), DONE);
        x.save(1);
        x.write(1, 3, 3, true);
        x.undo(1);
        due("commit", x.commit(1), DONE);
        due("an undone write is no conflict", x.write(0, 3, 1, true), DONE);
        due("commit", x.commit(0), DONE);
        // An absent row written again as absent is a write all the same.
        due("begin", x.begin(0, false), DONE);
        due("begin", x.begin(1, false), DONE);
        due("write", x.write(1, 50, 0, false), DONE);
        due("commit", x.commit(1), DONE);
        due("conflict with a row made absent", x.write(0, 50, 0, false), CONFLICT);
    }

    private static void promise7Save() {
        test = "promise 7";
        SerializableStore x = new SerializableStore(6);
        due("begin", x.begin(0, false), DONE);
        due("begin", x.begin(1, false), DONE);
        for (int saved = 1; saved <= 3; saved++) {
            due("save", x.save(0), DONE);
            due("savepoints", x.savepoints(0), saved);
            due("write", x.write(0, saved, saved, true), DONE);
        }
        due("a fourth save", x.save(0), FULL);
        due("savepoints", x.savepoints(0), 3);
        due("the other session has its own", x.savepoints(1), 0);
        due("undo", x.undo(0), DONE);
        due("the refused save kept nothing", x.seen(0, 3), false);
        due("the refused save kept nothing", x.seen(0, 2), true);
        due("save again", x.save(0), DONE);
        due("save again", x.save(0), FULL);
        for (int session : BAD_SESSIONS) {
            due("save of no session", x.save(session), REFUSED);
        }
        due("save without a transaction", x.save(2), REFUSED);
    }

    private static void promise8Undo() {
        test = "promise 8";
        SerializableStore x = new SerializableStore(6);
        put(x, 3, 1, 100);
        due("begin", x.begin(0, false), DONE);
        due("undo without a savepoint", x.undo(0), FULL);
        due("write", x.write(0, 1, 1, true), DONE);
        due("undo without a savepoint", x.undo(0), FULL);
        due("nothing changed", x.read(0, 1), 1);
        due("save", x.save(0), DONE);
        due("write", x.write(0, 1, 2, true), DONE);
        due("write", x.write(0, 2, 2, true), DONE);
        due("save", x.save(0), DONE);
        due("write", x.write(0, 1, 3, false), DONE);
        due("undo", x.undo(0), DONE);
        due("back to the second savepoint", x.read(0, 1), 2);
        due("back to the second savepoint", x.read(0, 2), 2);
        due("savepoints", x.savepoints(0), 1);
        due("undo", x.undo(0), DONE);
        due("back to the first savepoint", x.read(0, 1), 1);
        due("back to the first savepoint", x.read(0, 2), ABSENT);
        due("savepoints", x.savepoints(0), 0);
        due("undo without a savepoint", x.undo(0), FULL);
        due("commit", x.commit(0), DONE);
        due("what was not undone is committed", x.row(1), 1);
        due("what was undone is not", x.row(2), ABSENT);
        for (int session : BAD_SESSIONS) {
            due("undo of no session", x.undo(session), REFUSED);
        }
        due("undo without a transaction", x.undo(0), REFUSED);
    }

    private static void promise8UndoMakesRoom() {
        test = "promise 8, room for writes";
        SerializableStore x = new SerializableStore(6);
        put(x, 3, 1, 100);
        due("begin", x.begin(0, false), DONE);
        due("save", x.save(0), DONE);
        for (int place = 0; place < 12; place++) {
            due("write", x.write(0, 1, place, true), DONE);
        }
        due("a thirteenth write", x.write(0, 1, 12, true), FULL);
        due("keys written", x.count(3), 1);
        due("undo", x.undo(0), DONE);
        due("back to the snapshot", x.read(0, 1), 100);
        due("save", x.save(0), DONE);
        for (int place = 0; place < 12; place++) {
            due("write after undo", x.write(0, place, place, true), DONE);
        }
        due("a thirteenth write", x.write(0, 1, 12, true), FULL);
        due("save with 12 writes", x.save(0), DONE);
        due("undo of nothing", x.undo(0), DONE);
        due("keys written", x.count(3), 12);
        due("savepoints", x.savepoints(0), 1);
    }

    private static void promise9Commit() {
        test = "promise 9";
        SerializableStore x = new SerializableStore(6);
        for (int session : BAD_SESSIONS) {
            due("commit of no session", x.commit(session), REFUSED);
        }
        due("commit without a transaction", x.commit(0), REFUSED);
        due("begin", x.begin(0, true), DONE);
        due("write", x.write(0, 4, 1, true), DONE);
        due("write", x.write(0, 4, 2, true), DONE);
        due("write", x.write(0, 5, 2, true), DONE);
        due("write", x.write(0, 5, 2, false), DONE);
        due("commit", x.commit(0), DONE);
        due("the last write counts", x.row(4), 2);
        due("the last write counts", x.row(5), ABSENT);
        due("commits", x.count(0), 1);
        due("it has ended", x.commit(0), REFUSED);
        due("commits", x.count(0), 1);
        due("begin", x.begin(1, true), DONE);
        due("commit of no writes", x.commit(1), DONE);
        due("commits", x.count(0), 2);
        commitEmpty(x, 2);
        due("commits", x.count(0), 3);
    }

    // Sessions 0, 1 and 2 with 0 -> 1 -> 2, committed in the order given: the last one fails,
    // whichever of the three it is.
    private static void chainFailsAtTheLast(int first, int second, int third) {
        SerializableStore x = new SerializableStore(6);
        for (int session = 0; session < 3; session++) {
            due("begin", x.begin(session, true), DONE);
        }
        x.read(0, 10);
        x.write(1, 10, 1, true);
        x.read(1, 11);
        x.write(2, 11, 1, true);
        due("commit of " + first, x.commit(first), DONE);
        due("commit of " + second, x.commit(second), DONE);
        due("commit of " + third + " as the last", x.commit(third), FAILURE);
        due("it was rolled back", x.savepoints(third), REFUSED);
        due("commits", x.count(0), 2);
        due("row 10", x.row(10), third == 1 ? ABSENT : 1);
        due("row 11", x.row(11), third == 2 ? ABSENT : 1);
        due("begin", x.begin(third, true), DONE);
        x.read(third, 10);
        x.write(third, 11, 2, true);
        due("tried again alone", x.commit(third), DONE);
    }

    private static void promise9Failure() {
        test = "promise 9, FAILURE";
        chainFailsAtTheLast(0, 1, 2);
        chainFailsAtTheLast(0, 2, 1);
        chainFailsAtTheLast(1, 0, 2);
        chainFailsAtTheLast(1, 2, 0);
        chainFailsAtTheLast(2, 0, 1);
        chainFailsAtTheLast(2, 1, 0);
    }

    // T1 and T3 the same: two transactions that each read what the other writes.
    private static void writeSkew(boolean serializable0, boolean serializable1, int answer) {
        SerializableStore x = new SerializableStore(6);
        due("begin", x.begin(0, serializable0), DONE);
        due("begin", x.begin(1, serializable1), DONE);
        x.sum(0, 0, 1);
        x.sum(1, 0, 1);
        due("write", x.write(0, 0, 1, true), DONE);
        due("write", x.write(1, 1, 1, true), DONE);
        due("commit", x.commit(0), DONE);
        due("commit of the second", x.commit(1), answer);
        due("row of the second", x.row(1), answer == DONE ? 1 : ABSENT);
    }

    private static void promise9FailureEdges() {
        test = "promise 9, edges of FAILURE";
        writeSkew(true, true, FAILURE);
        writeSkew(true, false, DONE);
        writeSkew(false, true, DONE);
        writeSkew(false, false, DONE);
        // One arrow alone is fine, and so are two arrows into or out of the same one.
        SerializableStore x = new SerializableStore(6);
        for (int session = 0; session < 3; session++) {
            due("begin", x.begin(session, true), DONE);
        }
        x.read(0, 10);
        x.read(1, 10);
        x.write(2, 10, 1, true);
        due("commit", x.commit(2), DONE);
        due("commit", x.commit(0), DONE);
        due("commit with two arrows into the same", x.commit(1), DONE);
        for (int session = 0; session < 3; session++) {
            due("begin", x.begin(session, true), DONE);
        }
        x.read(0, 20);
        x.read(0, 21);
        x.write(1, 20, 1, true);
        x.write(2, 21, 1, true);
        due("commit", x.commit(1), DONE);
        due("commit", x.commit(2), DONE);
        due("commit with two arrows out of the same", x.commit(0), DONE);
        // A transaction that reads and writes the same key has no arrow to itself.
        due("begin", x.begin(0, true), DONE);
        due("begin", x.begin(1, true), DONE);
        x.read(0, 30);
        x.write(0, 30, 1, true);
        x.read(1, 30);
        due("commit", x.commit(1), DONE);
        due("commit", x.commit(0), DONE);
    }

    private static void promise9FailureNeedsCommitted() {
        test = "promise 9, only committed ones";
        // 0 -> 1 -> 2, but 2 is rolled back or still open when the others commit.
        SerializableStore x = new SerializableStore(6);
        for (int session = 0; session < 3; session++) {
            due("begin", x.begin(session, true), DONE);
        }
        x.read(0, 10);
        x.write(1, 10, 1, true);
        x.read(1, 11);
        x.write(2, 11, 1, true);
        due("commit", x.commit(1), DONE);
        due("commit", x.commit(0), DONE);
        due("rollback", x.rollback(2), DONE);
        due("begin", x.begin(2, true), DONE);
        x.write(2, 11, 1, true);
        due("commit of one that began later", x.commit(2), DONE);
    }

    private static void promise9FailureNeedsConcurrent() {
        test = "promise 9, only concurrent ones";
        SerializableStore x = new SerializableStore(6);
        due("begin", x.begin(3, true), DONE);
        due("begin", x.begin(0, true), DONE);
        x.read(0, 10);
        x.write(0, 11, 1, true);
        due("commit", x.commit(0), DONE);
        // It began after the commit, so there is no arrow, though 3 still keeps the first tracked.
        due("begin", x.begin(1, true), DONE);
        x.read(1, 11);
        x.write(1, 10, 1, true);
        due("commit of one that began later", x.commit(1), DONE);
        due("both are tracked", x.count(2), 2);
        due("commit", x.commit(3), DONE);
    }

    private static void promise9UndoneWritesMakeNoArrow() {
        test = "promise 9, undone writes";
        SerializableStore x = new SerializableStore(6);
        due("begin", x.begin(0, true), DONE);
        due("begin", x.begin(1, true), DONE);
        x.read(0, 1);
        x.read(1, 0);
        x.write(0, 0, 1, true);
        x.save(1);
        x.write(1, 1, 1, true);
        x.undo(1);
        due("commit", x.commit(0), DONE);
        due("commit without the undone write", x.commit(1), DONE);
    }

    // 0 -> 1 -> 2 where 2 is no longer tracked when 0 commits: the arrow 1 -> 2 still counts.
    private static void promise9FailureOverUntracked() {
        test = "promise 9, arrows to untracked ones";
        SerializableStore x = new SerializableStore(6);
        due("begin", x.begin(1, true), DONE);
        due("begin", x.begin(2, true), DONE);
        x.read(1, 11);
        x.write(2, 11, 1, true);
        due("commit of 2", x.commit(2), DONE);
        due("begin of 0 after it", x.begin(0, true), DONE);
        x.read(0, 10);
        x.write(1, 10, 1, true);
        due("commit of 1", x.commit(1), DONE);
        due("only 1 is tracked", x.count(2), 1);
        // The place of the untracked one may be used again, which must not lose the arrow.
        for (int made = 0; made < 5; made++) {
            due("begin", x.begin(3, true), DONE);
            due("commit", x.commit(3), DONE);
        }
        due("tracked", x.count(2), 6);
        due("commit of 0", x.commit(0), FAILURE);
    }

    private static SerializableStore withTracked(int tracked) {
        SerializableStore x = new SerializableStore(2);
        due("begin of the one that stays open", x.begin(3, true), DONE);
        for (int made = 1; made <= tracked; made++) {
            due("begin", x.begin(0, true), DONE);
            x.write(0, made, made, true);
            due("commit", x.commit(0), DONE);
            due("tracked", x.count(2), made);
        }
        return x;
    }

    private static void promise9Full() {
        test = "promise 9, FULL";
        SerializableStore x = withTracked(8);
        due("begin", x.begin(0, true), DONE);
        due("write", x.write(0, 20, 1, true), DONE);
        due("commit with 8 tracked", x.commit(0), FULL);
        due("it was rolled back", x.commit(0), REFUSED);
        due("it was rolled back", x.row(20), ABSENT);
        due("commits", x.count(0), 8);
        due("begin", x.begin(1, true), DONE);
        due("commit of no writes with 8 tracked", x.commit(1), FULL);
        due("begin", x.begin(0, false), DONE);
        due("write", x.write(0, 20, 1, true), DONE);
        due("commit of one that is not serializable", x.commit(0), DONE);
        due("it is not tracked", x.count(2), 8);
        due("commit of the one they are tracked for", x.commit(3), DONE);
        due("none is tracked any more", x.count(2), 0);
        due("begin", x.begin(0, true), DONE);
        due("commit", x.commit(0), DONE);
    }

    private static void promise9FullEdges() {
        test = "promise 9, edges of FULL";
        // A second open one that sees all eight changes nothing; one that began earlier does.
        SerializableStore x = withTracked(8);
        due("begin", x.begin(1, true), DONE);
        due("begin", x.begin(2, false), DONE);
        due("rollback of the one they are tracked for", x.rollback(3), DONE);
        due("none is tracked", x.count(2), 0);
        due("commit", x.commit(1), DONE);
        x = new SerializableStore(2);
        due("begin of one that is not serializable", x.begin(2, false), DONE);
        for (int made = 0; made < 12; made++) {
            due("begin", x.begin(0, true), DONE);
            due("commit", x.commit(0), DONE);
        }
        due("none is tracked for it", x.count(2), 0);
        // Half of them are tracked for 1, all of them for 3: each counts once.
        x = withTracked(4);
        due("begin", x.begin(1, true), DONE);
        for (int made = 0; made < 4; made++) {
            due("begin", x.begin(0, true), DONE);
            due("commit", x.commit(0), DONE);
        }
        due("tracked", x.count(2), 8);
        due("commit of 3, with 4 tracked for 1", x.commit(3), DONE);
        due("tracked", x.count(2), 5);
        due("commit of 1", x.commit(1), DONE);
        due("tracked", x.count(2), 0);
    }

    private static void promise9FailureBeforeFull() {
        test = "promise 9, FAILURE before FULL";
        SerializableStore x = new SerializableStore(6);
        due("begin", x.begin(3, true), DONE);
        due("begin", x.begin(1, true), DONE);
        x.read(1, 50);
        x.write(1, 51, 1, true);
        due("begin", x.begin(0, true), DONE);
        x.read(0, 51);
        x.write(0, 50, 1, true);
        due("commit", x.commit(0), DONE);
        for (int made = 0; made < 7; made++) {
            due("begin", x.begin(0, true), DONE);
            due("commit", x.commit(0), DONE);
        }
        due("tracked", x.count(2), 8);
        due("both would do", x.commit(1), FAILURE);
        due("begin", x.begin(1, true), DONE);
        due("the tracked ones are still there", x.commit(1), FULL);
    }

    // What a failed commit would have added must leave no trace in later ones.
    private static void promise9FailureLeavesNoArrow() {
        test = "promise 9, a failed commit has no arrows";
        SerializableStore x = new SerializableStore(6);
        for (int session = 0; session < 4; session++) {
            due("begin", x.begin(session, true), DONE);
        }
        x.read(0, 1);
        x.write(0, 0, 1, true);
        x.read(1, 0);
        x.write(1, 1, 1, true);
        due("commit", x.commit(0), DONE);
        due("commit", x.commit(1), FAILURE);
        // Had 1 committed, 0 would have arrows in and out, and 2 -> 0 would fail.
        x.read(2, 0);
        due("commit of 2 -> 0", x.commit(2), DONE);
    }

    private static void promise10Rollback() {
        test = "promise 10";
        SerializableStore x = new SerializableStore(6);
        for (int session : BAD_SESSIONS) {
            due("rollback of no session", x.rollback(session), REFUSED);
        }
        due("rollback without a transaction", x.rollback(0), REFUSED);
        put(x, 0, 1, 1);
        due("begin", x.begin(0, true), DONE);
        due("begin", x.begin(1, true), DONE);
        x.read(0, 2);
        x.write(0, 1, 9, true);
        x.write(0, 3, 9, true);
        x.save(0);
        due("rollback", x.rollback(0), DONE);
        due("row", x.row(1), 1);
        due("row", x.row(3), ABSENT);
        due("commits", x.count(0), 1);
        due("keys written", x.count(3), 0);
        due("rollback again", x.rollback(0), REFUSED);
        // A transaction rolled back takes no part in arrows.
        x.read(1, 3);
        x.write(1, 2, 1, true);
        due("begin", x.begin(0, true), DONE);
        due("the new one has read nothing", x.commit(0), DONE);
        due("commit", x.commit(1), DONE);
    }

    private static void promise10RollbackEmptiesTheReadSet() {
        test = "promise 10, read set";
        SerializableStore x = reader();
        x.read(0, 40);
        due("rollback", x.rollback(0), DONE);
        due("begin", x.begin(0, true), DONE);
        readSetHas(x, 40, false);
        due("begin", x.begin(0, true), DONE);
        x.read(0, 50);
        due("commit", x.commit(0), DONE);
        due("begin", x.begin(0, true), DONE);
        due("write", x.write(0, 61, 1, true), DONE);
        due("begin", x.begin(1, true), DONE);
        x.read(1, 61);
        due("write", x.write(1, 50, 1, true), DONE);
        due("commit", x.commit(1), DONE);
        due("commit of one that has read nothing", x.commit(0), DONE);
    }

    private static void promise11Sync() {
        test = "promise 11";
        SerializableStore x = new SerializableStore(3);
        due("sync of none", x.sync(), 0);
        put(x, 0, 1, 1);
        due("durable", x.count(1), 0);
        due("sync", x.sync(), 1);
        due("durable", x.count(1), 1);
        due("sync again", x.sync(), 1);
        put(x, 0, 2, 2);
        put(x, 0, 3, 3);
        due("the group counts from the sync", x.count(1), 1);
        put(x, 0, 4, 4);
        due("a full group", x.count(1), 4);
        due("begin", x.begin(0, false), DONE);
        x.write(0, 5, 5, true);
        due("sync with an open one", x.sync(), 4);
        due("it stays open", x.read(0, 5), 5);
        due("its writes are not committed", x.row(5), ABSENT);
        due("crash", x.crash(), 4);
        due("row", x.row(4), 4);
        due("row", x.row(5), ABSENT);
    }

    private static void promise12Crash() {
        test = "promise 12";
        SerializableStore x = new SerializableStore(3);
        put(x, 0, 1, 1);
        put(x, 0, 2, 2);
        put(x, 0, 3, 3);
        put(x, 0, 1, 11);
        due("begin", x.begin(0, false), DONE);
        due("make absent", x.write(0, 2, 0, false), DONE);
        due("commit", x.commit(0), DONE);
        for (int session = 0; session < 4; session++) {
            due("begin", x.begin(session, session > 1), DONE);
            x.write(session, 20 + session, 1, true);
            x.save(session);
        }
        due("crash", x.crash(), 3);
        for (int session = 0; session < 4; session++) {
            due("none is open", x.savepoints(session), REFUSED);
            due("none has writes", x.count(3 + session), 0);
            due("row", x.row(20 + session), ABSENT);
        }
        due("the lost write", x.row(1), 1);
        due("the lost write that made absent", x.row(2), 2);
        due("row", x.row(3), 3);
        due("commits", x.count(0), 3);
        due("durable", x.count(1), 3);
        due("crash again", x.crash(), 3);
        // Nothing of the lost commits may lock, conflict or count for the group.
        due("begin", x.begin(0, false), DONE);
        due("write of a row that a lost commit wrote", x.write(0, 1, 5, true), DONE);
        due("write of a row that a lost one wrote", x.write(0, 20, 5, true), DONE);
        due("commit", x.commit(0), DONE);
        put(x, 1, 5, 5);
        due("the group counts anew", x.count(1), 3);
        put(x, 1, 6, 6);
        due("the group counts anew", x.count(1), 6);
        due("crash", x.crash(), 6);
        due("row", x.row(1), 5);
    }

    private static void promise12CrashKeepsEveryDurableRow() {
        test = "promise 12, every row";
        SerializableStore x = new SerializableStore(2);
        for (int key = 0; key < 64; key++) {
            put(x, key % 4, key, key + 100);
        }
        due("begin", x.begin(0, false), DONE);
        x.write(0, 0, 1, true);
        x.write(0, 31, 1, true);
        x.write(0, 32, 1, false);
        x.write(0, 63, 1, true);
        due("commit", x.commit(0), DONE);
        due("crash", x.crash(), 64);
        for (int key = 0; key < 64; key++) {
            due("row " + key, x.row(key), key + 100);
        }
    }

    private static void promise12CrashGivesNumbersAnew() {
        test = "promise 12, numbers given anew";
        SerializableStore x = new SerializableStore(6);
        put(x, 0, 1, 1);
        put(x, 0, 2, 2);
        put(x, 0, 3, 3);
        due("crash", x.crash(), 0);
        due("begin", x.begin(0, false), DONE);
        put(x, 1, 9, 9);
        due("a lost commit is no conflict", x.write(0, 3, 1, true), DONE);
        due("a lost commit is no conflict", x.write(0, 1, 1, true), DONE);
        due("a new one is", x.write(0, 9, 1, true), CONFLICT);
    }

    private static void promise12CrashForgets() {
        test = "promise 12, forgotten transactions";
        SerializableStore x = withTracked(8);
        due("crash", x.crash(), 8);
        due("tracked", x.count(2), 0);
        due("begin", x.begin(3, true), DONE);
        due("tracked", x.count(2), 0);
        due("begin", x.begin(0, true), DONE);
        due("commit", x.commit(0), DONE);
        due("tracked", x.count(2), 1);
        // Lost ones had higher numbers than the new ones have: they must not count as concurrent.
        x = new SerializableStore(6);
        due("begin", x.begin(3, true), DONE);
        for (int made = 0; made < 5; made++) {
            due("begin", x.begin(0, true), DONE);
            x.read(0, 10);
            x.write(0, 11, made, true);
            due("commit", x.commit(0), DONE);
        }
        due("tracked", x.count(2), 5);
        due("crash", x.crash(), 0);
        due("begin", x.begin(0, true), DONE);
        due("tracked", x.count(2), 0);
        x.read(0, 11);
        x.write(0, 10, 1, true);
        due("commit has no arrow to a lost one", x.commit(0), DONE);
    }

    private static void promise13Row() {
        test = "promise 13";
        SerializableStore x = new SerializableStore(2);
        put(x, 0, 0, -1);
        put(x, 0, 63, 0);
        due("row", x.row(0), -1);
        due("row", x.row(63), 0);
        due("row", x.row(1), ABSENT);
        due("begin", x.begin(0, false), DONE);
        x.write(0, 0, 5, true);
        due("row without the open writes", x.row(0), -1);
        due("commit", x.commit(0), DONE);
        due("row after a commit that is not durable", x.row(0), 5);
        for (int key : BAD_KEYS) {
            due("row of no key", x.row(key), NONE);
        }
    }

    private static void promise14Seen() {
        test = "promise 14";
        SerializableStore x = new SerializableStore(2);
        put(x, 0, 0, 0);
        put(x, 0, 63, 5);
        due("seen without a transaction", x.seen(0, 0), false);
        due("begin", x.begin(0, true), DONE);
        due("seen of the value 0", x.seen(0, 0), true);
        due("seen", x.seen(0, 63), true);
        due("seen of an absent row", x.seen(0, 1), false);
        put(x, 1, 1, 1);
        due("seen stays on the snapshot", x.seen(0, 1), false);
        x.save(0);
        x.write(0, 2, 1, true);
        x.write(0, 0, 1, false);
        due("seen of an own write", x.seen(0, 2), true);
        due("seen of a row made absent", x.seen(0, 0), false);
        x.undo(0);
        due("seen of an undone write", x.seen(0, 2), false);
        due("seen of an undone write", x.seen(0, 0), true);
        for (int session : BAD_SESSIONS) {
            due("seen of no session", x.seen(session, 0), false);
        }
        for (int key : BAD_KEYS) {
            due("seen of no key", x.seen(0, key), false);
        }
        due("commit", x.commit(0), DONE);
        due("seen after the commit", x.seen(0, 0), false);
    }

    private static void promise15Savepoints() {
        test = "promise 15";
        SerializableStore x = new SerializableStore(2);
        for (int session : BAD_SESSIONS) {
            due("savepoints of no session", x.savepoints(session), REFUSED);
        }
        for (int session = 0; session < 4; session++) {
            due("savepoints without a transaction", x.savepoints(session), REFUSED);
            due("begin", x.begin(session, false), DONE);
            for (int saved = 0; saved < session; saved++) {
                x.save(session);
            }
        }
        for (int session = 0; session < 4; session++) {
            due("savepoints", x.savepoints(session), session);
        }
        due("undo", x.undo(2), DONE);
        due("savepoints after undo", x.savepoints(2), 1);
        due("commit", x.commit(2), DONE);
        due("savepoints after commit", x.savepoints(2), REFUSED);
        due("rollback", x.rollback(3), DONE);
        due("savepoints after rollback", x.savepoints(3), REFUSED);
    }

    private static void promise16Count() {
        test = "promise 16";
        SerializableStore x = new SerializableStore(3);
        for (int session = 0; session < 4; session++) {
            due("begin", x.begin(session, true), DONE);
            for (int key = 0; key <= session; key++) {
                x.write(session, 10 * session + key, 1, true);
                x.write(session, 10 * session + key, 1, false);
            }
        }
        for (int session = 0; session < 4; session++) {
            due("keys written", x.count(3 + session), session + 1);
        }
        x.save(3);
        x.write(3, 63, 1, true);
        x.write(3, 30, 1, true);
        due("keys written", x.count(6), 5);
        x.undo(3);
        due("keys written", x.count(6), 4);
        due("commit", x.commit(0), DONE);
        due("keys written by none", x.count(3), 0);
        due("commits", x.count(0), 1);
        due("durable", x.count(1), 0);
        due("tracked", x.count(2), 1);
        due("commit", x.commit(1), DONE);
        due("tracked", x.count(2), 2);
        due("rollback", x.rollback(2), DONE);
        due("tracked", x.count(2), 2);
        due("commit", x.commit(3), DONE);
        due("tracked with none open", x.count(2), 0);
        due("commits", x.count(0), 3);
        due("durable", x.count(1), 3);
        for (int what : new int[] {-1, 7, 8, Integer.MIN_VALUE, Integer.MAX_VALUE}) {
            due("count of nothing", x.count(what), REFUSED);
        }
    }

    private static void promise16TrackedNeedsConcurrent() {
        test = "promise 16, tracked";
        SerializableStore x = new SerializableStore(3);
        due("begin", x.begin(0, true), DONE);
        commitEmpty(x, 1);
        due("one that is not serializable is not tracked", x.count(2), 0);
        due("begin", x.begin(1, true), DONE);
        due("commit", x.commit(1), DONE);
        due("tracked", x.count(2), 1);
        due("begin", x.begin(2, true), DONE);
        due("begin", x.begin(3, true), DONE);
        due("rollback", x.rollback(0), DONE);
        due("those that began later do not track it", x.count(2), 0);
        due("commit", x.commit(2), DONE);
        due("tracked for the one that is left", x.count(2), 1);
    }

    public static void main(String[] args) {
        promise1NewObject();
        promise2Begin();
        promise2RefusedBeginChangesNothing();
        promise3Read();
        promise3ReadSet();
        promise3ReadSetAndOwnWrites();
        promise4Next();
        promise4NextOfEachSession();
        promise4NextReads();
        promise5Sum();
        promise5SumReads();
        promise6Write();
        promise6LockedBeforeConflict();
        promise6Locks();
        promise6ConflictUsesNumbers();
        promise7Save();
        promise8Undo();
        promise8UndoMakesRoom();
        promise9Commit();
        promise9Failure();
        promise9FailureEdges();
        promise9FailureNeedsCommitted();
        promise9FailureNeedsConcurrent();
        promise9UndoneWritesMakeNoArrow();
        promise9FailureOverUntracked();
        promise9Full();
        promise9FullEdges();
        promise9FailureBeforeFull();
        promise9FailureLeavesNoArrow();
        promise10Rollback();
        promise10RollbackEmptiesTheReadSet();
        promise11Sync();
        promise12Crash();
        promise12CrashKeepsEveryDurableRow();
        promise12CrashGivesNumbersAnew();
        promise12CrashForgets();
        promise13Row();
        promise14Seen();
        promise15Savepoints();
        promise16Count();
        promise16TrackedNeedsConcurrent();
        System.out.println(wrong == 0 ? "all promises are kept" : wrong + " answers are not as due");
        if (wrong != 0) {
            System.exit(1);
        }
    }
}
