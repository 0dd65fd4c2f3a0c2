import java.util.ArrayDeque;
import java.util.ArrayList;
import java.util.Arrays;
import java.util.Deque;
import java.util.List;
import java.util.Random;
import java.util.TreeSet;

// The document's first sentence: serializable transactions show no effect that no serial order
// has. Runs of serializable transactions alone: those that committed are put in a serial order
// and done again, one after the other on plain rows, and must get the answers they got before.
// This knows nothing of the document's arrows, so it would find most misreadings that lose one. That
// some commits fail though an order is left, as the document asks, is for the other tests.
public final class SerialOrderTest {
    private static final int RUNS = 3000;
    // Twice, before a crash and after it; the looks at the rows are within the 512 calls too.
    private static final int CALLS = 200;
    private static final int KEYS = 64;
    private static final int[] KEYS_USED = {3, 5, 8, 16, 32};
    private static final long ABSENT = SerializableStore.ABSENT;

    private enum Name { READ, NEXT, SUM, WRITE, SAVE, UNDO }

    private static final class Call {
        final Name name;
        final int first;
        final int second;
        final boolean flag;
        final long answer;

        Call(Name name, int first, int second, boolean flag, long answer) {
            this.name = name;
            this.first = first;
            this.second = second;
            this.flag = flag;
            this.answer = answer;
        }

        @Override
        public String toString() {
            return name + " " + first + " " + second + " " + flag + " -> " + answer;
        }
    }

    private static final class Transaction {
        final int start;
        int number;
        final List<Call> calls = new ArrayList<>();
        // Keys whose row in the snapshot an answer may have come from.
        final TreeSet<Integer> reads = new TreeSet<>();
        TreeSet<Integer> writes = new TreeSet<>();
        final Deque<TreeSet<Integer>> saved = new ArrayDeque<>();

        Transaction(int start) {
            this.start = start;
        }

        void add(Call call) {
            calls.add(call);
            switch (call.name) {
                case WRITE: writes.add(call.first); break;
                case SAVE: saved.push(new TreeSet<>(writes)); break;
                case UNDO: writes = saved.pop(); break;
                default: addReads(call); break;
            }
        }

        private void addReads(Call call) {
            int last = call.first;
            if (call.name == Name.SUM) {
                last = call.second;
            } else if (call.name == Name.NEXT) {
                last = (int) Math.min(KEYS - 1, call.answer);
            }
            for (int key = call.first; key <= last; key++) {
                if (!writes.contains(key)) {
                    reads.add(key);
                }
            }
        }

        // Whether this one comes before the other in every serial order with the same effect.
        boolean isBefore(Transaction other) {
            for (int key : writes) {
                boolean wroteFirst = other.writes.contains(key) && number < other.number;
                boolean wasRead = other.reads.contains(key) && number <= other.start;
                if (wroteFirst || wasRead) {
                    return true;
                }
            }
            for (int key : reads) {
                if (other.writes.contains(key) && start < other.number) {
                    return true;
                }
            }
            return false;
        }
    }

    private final Random random;
    private final SerializableStore store;
    private final int keys;
    private final Transaction[] open = new Transaction[4];
    // What has committed since the crash, and the rows and the number of commits it left.
    private final List<Transaction> committed = new ArrayList<>();
    private final long[] base = new long[KEYS];
    private int baseCommits = 0;
    private int failures = 0;
    private int orderedAnew = 0;

    private SerialOrderTest(long seed) {
        random = new Random(seed);
        store = new SerializableStore(2 + random.nextInt(5));
        keys = KEYS_USED[(int) (seed % KEYS_USED.length)];
        Arrays.fill(base, ABSENT);
    }

    // The keys that are used are spread over the whole range.
    private int spread(int place) {
        return place * (KEYS - 1) / (keys - 1);
    }

    private int key() {
        return spread(random.nextInt(keys));
    }

    private void done(int session, Name name, int first, int second, boolean flag, long answer) {
        boolean isWrite = name == Name.WRITE || name == Name.SAVE || name == Name.UNDO;
        if (!isWrite || answer == SerializableStore.DONE) {
            open[session].add(new Call(name, first, second, flag, answer));
        } else if (answer == SerializableStore.CONFLICT) {
            open[session] = null;
        }
    }

    private void call(int session) {
        int first = key();
        int second = key();
        boolean flag = random.nextInt(4) != 0;
        int draw = random.nextInt(100);
        if (draw < 30) {
            done(session, Name.READ, first, 0, false, store.read(session, first));
        } else if (draw < 38) {
            done(session, Name.NEXT, first, 0, false, store.next(session, first));
        } else if (draw < 44) {
            done(session, Name.SUM, first, second, false, store.sum(session, first, second));
        } else if (draw < 74) {
            int value = random.nextInt(1000);
            done(session, Name.WRITE, first, value, flag, store.write(session, first, value, flag));
        } else if (draw < 79) {
            done(session, Name.SAVE, 0, 0, false, store.save(session));
        } else if (draw < 83) {
            done(session, Name.UNDO, 0, 0, false, store.undo(session));
        } else if (draw < 85) {
            store.rollback(session);
            open[session] = null;
        } else {
            commit(session);
        }
    }

    private void commit(int session) {
        int answer = store.commit(session);
        Transaction done = open[session];
        open[session] = null;
        if (answer == SerializableStore.DONE) {
            done.number = baseCommits + committed.size() + 1;
            committed.add(done);
        } else if (answer == SerializableStore.FAILURE) {
            failures++;
        }
    }

    private void step() {
        int session = random.nextInt(4);
        if (open[session] == null) {
            store.begin(session, true);
            open[session] = new Transaction(baseCommits + committed.size());
        } else {
            call(session);
        }
    }

    // The transactions in an order that keeps each one after all that come before it, or null.
    private List<Transaction> serialOrder(List<Transaction> left) {
        List<Transaction> order = new ArrayList<>();
        List<Transaction> rest = new ArrayList<>(left);
        while (!rest.isEmpty()) {
            Transaction next = null;
            for (Transaction candidate : rest) {
                if (next == null && rest.stream().noneMatch(o -> o != candidate && o.isBefore(candidate))) {
                    next = candidate;
                }
            }
            if (next == null) {
                return null;
            }
            orderedAnew += next == rest.get(0) ? 0 : 1;
            rest.remove(next);
            order.add(next);
        }
        return order;
    }

    private static long answerOf(Call call, long[] rows) {
        switch (call.name) {
            case READ:
                return rows[call.first];
            case NEXT:
                int at = call.first;
                while (at < KEYS && rows[at] == ABSENT) {
                    at++;
                }
                return at;
            case SUM:
                long total = 0;
                for (int key = call.first; key <= call.second; key++) {
                    total += rows[key] == ABSENT ? 0 : rows[key];
                }
                return total;
            case WRITE:
                rows[call.first] = call.flag ? call.second : ABSENT;
                return SerializableStore.DONE;
            default:
                return SerializableStore.DONE;
        }
    }

    private static boolean isRepeated(Transaction t, long[] rows) {
        Deque<long[]> saved = new ArrayDeque<>();
        for (Call call : t.calls) {
            if (call.name == Name.SAVE) {
                saved.push(rows.clone());
            } else if (call.name == Name.UNDO) {
                System.arraycopy(saved.pop(), 0, rows, 0, KEYS);
            }
            long answer = answerOf(call, rows);
            if (answer != call.answer) {
                System.out.println("in a serial order, " + call + " would be answered " + answer);
                return false;
            }
        }
        return true;
    }

    // Whether the transactions have a serial order with their answers that leaves the rows as they are.
    private boolean isSerial(List<Transaction> transactions) {
        List<Transaction> order = serialOrder(transactions);
        if (order == null) {
            System.out.println("no serial order has the effect of the " + transactions.size() + " commits");
            return false;
        }
        long[] rows = base.clone();
        for (Transaction t : order) {
            if (!isRepeated(t, rows)) {
                return false;
            }
        }
        for (int place = 0; place < keys; place++) {
            int key = spread(place);
            long row = store.row(key);
            if (row != rows[key]) {
                System.out.println("row(" + key + ") is " + row + ", in a serial order " + rows[key]);
                return false;
            }
        }
        return true;
    }

    private boolean callsAreSerial() {
        for (int i = 0; i < CALLS; i++) {
            step();
        }
        return isSerial(committed);
    }

    // What a crash leaves is the effect of the first so many commits, and the calls go on from it.
    private boolean crashIsSerial() {
        int left = store.crash();
        if (left < 0 || left > committed.size() || !isSerial(committed.subList(0, left))) {
            return false;
        }
        for (Transaction t : serialOrder(committed.subList(0, left))) {
            isRepeated(t, base);
        }
        Arrays.fill(open, null);
        committed.clear();
        baseCommits = left;
        return true;
    }

    private boolean runIsSerial() {
        return callsAreSerial() && crashIsSerial() && callsAreSerial();
    }

    public static void main(String[] args) {
        int failures = 0;
        int orderedAnew = 0;
        for (long seed = 0; seed < RUNS; seed++) {
            SerialOrderTest run = new SerialOrderTest(seed);
            if (!run.runIsSerial()) {
                System.out.println("in run " + seed);
                System.exit(1);
            }
            failures += run.failures;
            orderedAnew += run.orderedAnew;
        }
        // Runs in which the commits' own order always did would prove little.
        boolean enough = failures >= RUNS && orderedAnew >= RUNS;
        if (!enough) {
            System.out.println("only " + failures + " failures, " + orderedAnew + " times another order than the commits'");
            System.exit(1);
        }
        System.out.println("the commits of " + RUNS + " runs have a serial order; failures: " + failures);
    }
}
