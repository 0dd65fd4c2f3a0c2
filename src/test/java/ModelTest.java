import java.util.ArrayList;
import java.util.List;
import java.util.Random;
import java.util.TreeMap;
import java.util.TreeSet;

// Long runs of calls, drawn from fixed seeds, answered side by side by the program and by a
// model that keeps every commit and follows the document's terms word by word.
public final class ModelTest {
    private static final int RUNS = 2400;
    private static final int CALLS = 512;

    private static final class Write {
        final int key;
        final long row;

        Write(int key, long row) {
            this.key = key;
            this.row = row;
        }
    }

    private static final class Transaction {
        int start;
        int number;
        boolean serializable;
        boolean forgotten;
        final List<Write> writes = new ArrayList<>();
        final List<Integer> saved = new ArrayList<>();
        final TreeSet<Integer> readSet = new TreeSet<>();

        TreeSet<Integer> writeSet() {
            TreeSet<Integer> keys = new TreeSet<>();
            for (Write write : writes) {
                keys.add(write.key);
            }
            return keys;
        }
    }

    private static final class Model {
        static final long ABSENT = 1000000000000L;
        static final long NONE = -1000000000000L;
        final int group;
        int durable = 0;
        final List<Transaction> committed = new ArrayList<>();
        final Transaction[] open = new Transaction[4];

        Model(int group) {
            this.group = Math.min(6, Math.max(2, group));
        }

        boolean badSession(int session) {
            return session < 0 || session > 3 || open[session] == null;
        }

        boolean badKey(int key) {
            return key < 0 || key > 63;
        }

        long rowAfter(int number, int key) {
            for (int i = number - 1; i >= 0; i--) {
                List<Write> writes = committed.get(i).writes;
                for (int j = writes.size() - 1; j >= 0; j--) {
                    if (writes.get(j).key == key) {
                        return writes.get(j).row;
                    }
                }
            }
            return ABSENT;
        }

        long sees(Transaction t, int key) {
            for (int j = t.writes.size() - 1; j >= 0; j--) {
                if (t.writes.get(j).key == key) {
                    return t.writes.get(j).row;
                }
            }
            return rowAfter(t.start, key);
        }

        void reads(Transaction t, int key) {
            if (!t.writeSet().contains(key)) {
                t.readSet.add(key);
            }
        }

        int numberOf(Transaction t) {
            return t.number > 0 ? t.number : committed.size() + 1;
        }

        boolean concurrent(Transaction a, Transaction b) {
            return a.start < numberOf(b) && b.start < numberOf(a);
        }

        boolean arrow(Transaction a, Transaction b) {
            if (a == b || !a.serializable || !b.serializable || !concurrent(a, b)) {
                return false;
            }
            TreeSet<Integer> common = new TreeSet<>(a.readSet);
            common.retainAll(b.writeSet());
            return !common.isEmpty();
        }

        int trackedBesides(Transaction left) {
            int tracked = 0;
            for (Transaction t : committed) {
                boolean isTracked = false;
                for (Transaction o : open) {
                    isTracked |= o != null && o != left && o.serializable && concurrent(t, o);
                }
                if (isTracked && t.serializable && !t.forgotten) {
                    tracked++;
                }
            }
            return tracked;
        }

        int begin(int session, boolean serializable) {
            if (session < 0 || session > 3 || open[session] != null) {
                return -1;
            }
            open[session] = new Transaction();
            open[session].start = committed.size();
            open[session].serializable = serializable;
            return 0;
        }

        long read(int session, int key) {
            if (badSession(session) || badKey(key)) {
                return NONE;
            }
            reads(open[session], key);
            return sees(open[session], key);
        }

        int next(int session, int key) {
            if (badSession(session) || badKey(key)) {
                return -1;
            }
            int least = key;
            while (least < 64 && sees(open[session], least) == ABSENT) {
                least++;
            }
            for (int k = key; k <= Math.min(least, 63); k++) {
                reads(open[session], k);
            }
            return least;
        }

        long sum(int session, int low, int high) {
            if (badSession(session) || badKey(low) || badKey(high)) {
                return NONE;
            }
            long total = 0;
            for (int key = low; key <= high; key++) {
                reads(open[session], key);
                long row = sees(open[session], key);
                total += row == ABSENT ? 0 : row;
            }
            return total;
        }

        int write(int session, int key, int value, boolean present) {
            if (badSession(session) || badKey(key)) {
                return -1;
            }
            Transaction t = open[session];
            for (Transaction o : open) {
                if (o != null && o != t && o.writeSet().contains(key)) {
                    return 1;
                }
            }
            for (int number = t.start + 1; number <= committed.size(); number++) {
                if (committed.get(number - 1).writeSet().contains(key)) {
                    open[session] = null;
                    return 2;
                }
            }
            if (t.writes.size() == 12) {
                return 4;
            }
            t.writes.add(new Write(key, present ? value : ABSENT));
            return 0;
        }

        int save(int session) {
            if (badSession(session)) {
                return -1;
            }
            if (open[session].saved.size() == 3) {
                return 4;
            }
            open[session].saved.add(open[session].writes.size());
            return 0;
        }

        int undo(int session) {
            if (badSession(session)) {
                return -1;
            }
            Transaction t = open[session];
            if (t.saved.isEmpty()) {
                return 4;
            }
            int keep = t.saved.remove(t.saved.size() - 1);
            while (t.writes.size() > keep) {
                t.writes.remove(t.writes.size() - 1);
            }
            return 0;
        }

        boolean hasTwoArrows() {
            List<Transaction> all = new ArrayList<>();
            for (Transaction t : committed) {
                if (t.serializable && !t.forgotten) {
                    all.add(t);
                }
            }
            for (Transaction t2 : all) {
                boolean in = false;
                boolean out = false;
                for (Transaction other : all) {
                    in = in || arrow(other, t2);
                    out = out || arrow(t2, other);
                }
                if (in && out) {
                    return true;
                }
            }
            return false;
        }

        int commit(int session) {
            if (badSession(session)) {
                return -1;
            }
            Transaction t = open[session];
            int trackedByOthers = trackedBesides(t);
            open[session] = null;
            t.number = committed.size() + 1;
            committed.add(t);
            int answer = 0;
            if (t.serializable && hasTwoArrows()) {
                answer = 3;
            } else if (t.serializable && trackedByOthers >= 8) {
                answer = 4;
            }
            if (answer != 0) {
                committed.remove(committed.size() - 1);
            } else if (committed.size() - durable == group) {
                durable = committed.size();
            }
            return answer;
        }

        int rollback(int session) {
            if (badSession(session)) {
                return -1;
            }
            open[session] = null;
            return 0;
        }

        int sync() {
            durable = committed.size();
            return durable;
        }

        int crash() {
            for (int session = 0; session < 4; session++) {
                open[session] = null;
            }
            while (committed.size() > durable) {
                committed.remove(committed.size() - 1);
            }
            for (Transaction t : committed) {
                t.forgotten = true;
            }
            return committed.size();
        }

        long row(int key) {
            return badKey(key) ? NONE : rowAfter(committed.size(), key);
        }

        boolean seen(int session, int key) {
            return !badSession(session) && !badKey(key) && sees(open[session], key) != ABSENT;
        }

        int savepoints(int session) {
            return badSession(session) ? -1 : open[session].saved.size();
        }

        int count(int what) {
            switch (what) {
                case 0: return committed.size();
                case 1: return durable;
                case 2: return trackedBesides(null);
                case 3: case 4: case 5: case 6:
                    return open[what - 3] == null ? 0 : open[what - 3].writeSet().size();
                default: return -1;
            }
        }
    }

    // How the calls of a run are drawn; the kinds differ so that every answer is met often.
    private static final class Kind {
        final int keys;
        final int serializablePercent;
        final int writePercent;
        final int commitPercent;
        final int savePercent;
        final int crashPerMille;
        final boolean longReader;

        Kind(int keys, int serializablePercent, int writePercent, int commitPercent, int savePercent,
                int crashPerMille, boolean longReader) {
            this.keys = keys;
            this.serializablePercent = serializablePercent;
            this.writePercent = writePercent;
            this.commitPercent = commitPercent;
            this.savePercent = savePercent;
            this.crashPerMille = crashPerMille;
            this.longReader = longReader;
        }
    }

    private static final Kind[] KINDS = {
        new Kind(64, 50, 40, 10, 8, 10, false),
        new Kind(6, 100, 25, 25, 2, 4, false),
        new Kind(12, 90, 25, 25, 2, 4, false),
        new Kind(24, 100, 35, 25, 2, 2, false),
        new Kind(64, 90, 20, 40, 2, 2, true),
        new Kind(40, 100, 20, 40, 2, 0, true),
        new Kind(8, 30, 50, 4, 20, 4, false),
        new Kind(16, 50, 70, 3, 4, 4, false),
        // Much undone, so that reads of own writes that are gone at the commit are met.
        new Kind(8, 100, 20, 15, 35, 0, false),
        new Kind(4, 100, 20, 10, 30, 0, false),
    };

    private static final int[] WRONG = {-1, 64, 4, 65, -64, Integer.MIN_VALUE, Integer.MAX_VALUE, 1 << 16, 7};
    private static final int[] VALUES = {0, 1, -1, Integer.MAX_VALUE, Integer.MIN_VALUE, 77};

    private final Random random;
    private final Kind kind;
    private final SerializableStore store;
    private final Model model;
    private final TreeMap<String, Integer> met;
    private String call = "";
    private long got;
    private long want;

    private ModelTest(long seed, TreeMap<String, Integer> met) {
        this.random = new Random(seed);
        this.kind = KINDS[(int) (seed % KINDS.length)];
        int group = random.nextInt(10) - 1;
        this.store = new SerializableStore(group);
        this.model = new Model(group);
        this.met = met;
        this.call = "SerializableStore(" + group + ")";
    }

    private int session() {
        return random.nextInt(60) == 0 ? WRONG[random.nextInt(WRONG.length)] : random.nextInt(4);
    }

    private int key() {
        if (random.nextInt(60) == 0) {
            return WRONG[random.nextInt(WRONG.length)];
        }
        // Spread over the whole range, so that the last keys are met with few keys too.
        return random.nextInt(kind.keys) * 63 / (kind.keys - 1);
    }

    private int value() {
        return random.nextInt(3) == 0 ? VALUES[random.nextInt(VALUES.length)] : random.nextInt();
    }

    private void answers(String text, long program, long due) {
        call = text;
        got = program;
        want = due;
        String name = text.substring(0, text.indexOf('('));
        boolean isCode = due >= -1 && due <= 4 && !"sum read row next".contains(name);
        met.merge(isCode ? name + " " + due : name, 1, Integer::sum);
    }

    private void begin(int s) {
        boolean serializable = random.nextInt(100) < kind.serializablePercent;
        answers("begin(" + s + ", " + serializable + ")", store.begin(s, serializable), model.begin(s, serializable));
    }

    private void write(int s) {
        int k = key();
        int v = value();
        boolean present = random.nextInt(4) != 0;
        answers("write(" + s + ", " + k + ", " + v + ", " + present + ")",
                store.write(s, k, v, present), model.write(s, k, v, present));
    }

    private void look(int s) {
        int k = key();
        int which = random.nextInt(10);
        if (which < 6) {
            answers("read(" + s + ", " + k + ")", store.read(s, k), model.read(s, k));
        } else if (which < 8) {
            answers("next(" + s + ", " + k + ")", store.next(s, k), model.next(s, k));
        } else {
            int h = random.nextBoolean() ? key() : k + random.nextInt(4);
            answers("sum(" + s + ", " + k + ", " + h + ")", store.sum(s, k, h), model.sum(s, k, h));
        }
    }

    private void finish(int s) {
        if (random.nextInt(10) == 0) {
            answers("rollback(" + s + ")", store.rollback(s), model.rollback(s));
        } else {
            answers("commit(" + s + ")", store.commit(s), model.commit(s));
        }
    }

    private void observe(int s) {
        int which = random.nextInt(4);
        if (which == 0) {
            int k = key();
            answers("row(" + k + ")", store.row(k), model.row(k));
        } else if (which == 1) {
            int k = key();
            answers("seen(" + s + ", " + k + ")", store.seen(s, k) ? 1 : 0, model.seen(s, k) ? 1 : 0);
        } else if (which == 2) {
            answers("savepoints(" + s + ")", store.savepoints(s), model.savepoints(s));
        } else {
            int what = random.nextInt(40) == 0 ? WRONG[random.nextInt(WRONG.length)] : random.nextInt(7);
            answers("count(" + what + ")", store.count(what), model.count(what));
        }
    }

    private void step() {
        if (random.nextInt(1000) < kind.crashPerMille) {
            answers("crash()", store.crash(), model.crash());
            return;
        }
        if (random.nextInt(200) == 0) {
            answers("sync()", store.sync(), model.sync());
            return;
        }
        int s = session();
        boolean isOpen = s >= 0 && s < 4 && model.open[s] != null;
        if (!isOpen && random.nextInt(10) != 0) {
            begin(s);
            return;
        }
        // A transaction that stays open long keeps many others tracked.
        if (kind.longReader && s == 3 && random.nextInt(4) != 0) {
            s = random.nextInt(3);
        }
        int draw = random.nextInt(100);
        int commitsFrom = kind.writePercent;
        int savesFrom = commitsFrom + kind.commitPercent;
        int othersFrom = savesFrom + kind.savePercent;
        if (draw < commitsFrom) {
            write(s);
        } else if (draw < savesFrom) {
            finish(s);
        } else if (draw < othersFrom) {
            saveOrUndo(s);
        } else if (draw < othersFrom + 1) {
            begin(s);
        } else if (draw < othersFrom + 7) {
            observe(s);
        } else {
            look(s);
        }
    }

    private void saveOrUndo(int s) {
        if (random.nextInt(5) < 3) {
            answers("save(" + s + ")", store.save(s), model.save(s));
        } else {
            answers("undo(" + s + ")", store.undo(s), model.undo(s));
        }
    }

    private boolean runIsRight(long seed) {
        List<String> calls = new ArrayList<>();
        calls.add(call);
        for (int i = 0; i < CALLS; i++) {
            step();
            calls.add(call + " -> " + want);
            if (got != want) {
                System.out.println("run " + seed + ": " + call + " answered " + got + ", due is " + want + ", after");
                for (String earlier : calls) {
                    System.out.println("    " + earlier);
                }
                return false;
            }
        }
        return true;
    }

    public static void main(String[] args) {
        TreeMap<String, Integer> met = new TreeMap<>();
        for (long seed = 0; seed < RUNS; seed++) {
            if (!new ModelTest(seed, met).runIsRight(seed)) {
                System.exit(1);
            }
        }
        // Runs that never came to an answer would prove nothing about it.
        String[] needed = {
            "begin -1", "begin 0", "commit -1", "commit 0", "commit 3", "commit 4", "count", "crash", "next", "read",
            "rollback -1", "rollback 0", "row", "save -1", "save 0", "save 4", "savepoints -1", "savepoints 3",
            "seen 0", "seen 1", "sum", "sync", "undo -1", "undo 0", "undo 4",
            "write -1", "write 0", "write 1", "write 2", "write 4",
        };
        boolean allMet = true;
        for (String answer : needed) {
            if (met.getOrDefault(answer, 0) < 100) {
                System.out.println("met too seldom: " + answer + ", " + met.getOrDefault(answer, 0) + " times");
                allMet = false;
            }
        }
        if (args.length > 0) {
            System.out.println(met);
        }
        if (!allMet) {
            System.exit(1);
        }
        System.out.println(RUNS + " runs of " + CALLS + " calls are answered as the model answers them");
    }
}
