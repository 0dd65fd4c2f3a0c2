import java.util.ArrayList;
import java.util.List;
import java.util.Random;
import java.util.TreeMap;

// A call that is refused changes nothing, and neither does one that only looks. What a call has
// changed may show late (a read set, a START, a savepoint's number), so two objects get the same
// calls, one of them also many that must change nothing, and then both must go on alike.
public final class RefusedCallsTest {
    private static final int RUNS = 1200;
    private static final int CALLS_BEFORE = 100;
    private static final int CALLS_BETWEEN = 150;
    private static final int CALLS_AFTER = 250;
    private static final int[] WRONG_SESSIONS = {-1, 4, 63, 64, Integer.MIN_VALUE, Integer.MAX_VALUE};
    private static final int[] WRONG_KEYS = {-1, 64, 65, 127, Integer.MIN_VALUE, Integer.MAX_VALUE};
    private static final int[] WRONG_COUNTS = {-1, 7, 8, Integer.MIN_VALUE, Integer.MAX_VALUE};

    private enum Name {
        BEGIN, READ, NEXT, SUM, WRITE, SAVE, UNDO, COMMIT, ROLLBACK, SYNC, CRASH, ROW, SEEN, SAVEPOINTS, COUNT
    }

    private static final class Call {
        final Name name;
        final int session;
        final int key;
        final int other;
        final boolean flag;

        Call(Name name, int session, int key, int other, boolean flag) {
            this.name = name;
            this.session = session;
            this.key = key;
            this.other = other;
            this.flag = flag;
        }

        long on(SerializableStore x) {
            switch (name) {
                case BEGIN: return x.begin(session, flag);
                case READ: return x.read(session, key);
                case NEXT: return x.next(session, key);
                case SUM: return x.sum(session, key, other);
                case WRITE: return x.write(session, key, other, flag);
                case SAVE: return x.save(session);
                case UNDO: return x.undo(session);
                case COMMIT: return x.commit(session);
                case ROLLBACK: return x.rollback(session);
                case SYNC: return x.sync();
                case CRASH: return x.crash();
                case ROW: return x.row(key);
                case SEEN: return x.seen(session, key) ? 1 : 0;
                case SAVEPOINTS: return x.savepoints(session);
                default: return x.count(key);
            }
        }

        // Whether the document says of a call with this answer that nothing changes.
        boolean changesNothing(long answer) {
            switch (name) {
                case ROW: case SEEN: case SAVEPOINTS: case COUNT: return true;
                case READ: return answer == SerializableStore.NONE;
                case SUM: return answer == SerializableStore.NONE || key > other;
                case WRITE:
                    return answer == SerializableStore.REFUSED || answer == SerializableStore.LOCKED
                            || answer == SerializableStore.FULL;
                case SAVE: case UNDO:
                    return answer == SerializableStore.REFUSED || answer == SerializableStore.FULL;
                case BEGIN: case NEXT: case COMMIT: case ROLLBACK: return answer == SerializableStore.REFUSED;
                default: return false;
            }
        }

        @Override
        public String toString() {
            return name + " " + session + " " + key + " " + other + " " + flag;
        }
    }

    private final Random random;
    private final int group;
    private final int keys;
    private final boolean mostlyWrites;
    private final TreeMap<String, Integer> met;

    private RefusedCallsTest(long seed, TreeMap<String, Integer> met) {
        random = new Random(seed);
        group = random.nextInt(8);
        mostlyWrites = random.nextInt(3) == 0;
        // With few keys, sessions that mostly write would be rolled back before they have 12 writes.
        keys = mostlyWrites || random.nextBoolean() ? 64 : 6;
        this.met = met;
    }

    private int key() {
        return random.nextInt(keys) * 63 / (keys - 1);
    }

    private Name usualName() {
        if (mostlyWrites && random.nextInt(5) != 0) {
            int draw = random.nextInt(20);
            return draw < 4 ? Name.SAVE : draw < 5 ? Name.UNDO : Name.WRITE;
        }
        Name[] usual = {
            Name.BEGIN, Name.BEGIN, Name.BEGIN, Name.READ, Name.READ, Name.READ, Name.NEXT, Name.SUM, Name.WRITE,
            Name.WRITE, Name.WRITE, Name.WRITE, Name.SAVE, Name.UNDO, Name.COMMIT, Name.COMMIT, Name.ROW, Name.SEEN,
            Name.COUNT,
        };
        int rare = random.nextInt(150);
        return rare == 0 ? Name.CRASH : rare == 1 ? Name.SYNC : rare < 5 ? Name.ROLLBACK : usual[random.nextInt(usual.length)];
    }

    private Call usualCall() {
        Name name = usualName();
        int session = random.nextInt(4);
        int low = name == Name.COUNT ? random.nextInt(7) : key();
        int other = name == Name.SUM ? Math.min(63, low + random.nextInt(3)) : random.nextInt(100);
        boolean flag = random.nextInt(4) != 0;
        return new Call(name, session, low, other, flag);
    }

    private int any(int[] wrong) {
        return wrong[random.nextInt(wrong.length)];
    }

    // A call that is likely to change nothing: a number is wrong, or the state forbids it.
    private Call likelyRefused() {
        // A write can be refused in more ways than other calls.
        Name name = random.nextInt(4) == 0 ? Name.WRITE : Name.values()[random.nextInt(Name.values().length)];
        int session = random.nextInt(3) == 0 ? any(WRONG_SESSIONS) : random.nextInt(4);
        int low = random.nextInt(3) == 0 ? any(WRONG_KEYS) : key();
        int other = random.nextInt(3) == 0 ? any(WRONG_KEYS) : key();
        if (name == Name.COUNT) {
            low = random.nextInt(3) == 0 ? any(WRONG_COUNTS) : random.nextInt(7);
        }
        return new Call(name, session, low, other, random.nextBoolean());
    }

    private SerializableStore after(List<Call> calls) {
        SerializableStore x = new SerializableStore(group);
        for (Call call : calls) {
            call.on(x);
        }
        return x;
    }

    private List<Call> usualCalls(int many) {
        List<Call> calls = new ArrayList<>();
        for (int made = 0; made < many; made++) {
            calls.add(usualCall());
        }
        return calls;
    }

    // Each call is tried on an object of its own, so that one that does change something is left out.
    private List<Call> callsThatChangeNothing(List<Call> before) {
        List<Call> chosen = new ArrayList<>();
        for (int made = 0; made < CALLS_BETWEEN; made++) {
            Call call = likelyRefused();
            long answer = call.on(after(before));
            if (call.changesNothing(answer)) {
                chosen.add(call);
                met.merge(call.name + (answer >= -1 && answer <= 4 ? " " + answer : ""), 1, Integer::sum);
            }
        }
        return chosen;
    }

    private boolean goOnAlike(long seed) {
        List<Call> before = usualCalls(CALLS_BEFORE);
        List<Call> between = callsThatChangeNothing(before);
        SerializableStore plain = after(before);
        SerializableStore disturbed = after(before);
        for (Call call : between) {
            call.on(disturbed);
        }
        for (Call call : usualCalls(CALLS_AFTER)) {
            long due = call.on(plain);
            long got = call.on(disturbed);
            if (got != due) {
                System.out.println("run " + seed + ": after calls that change nothing, " + call + " answered " + got
                        + ", due is " + due + "; before: " + before + "; between: " + between);
                return false;
            }
        }
        return true;
    }

    public static void main(String[] args) {
        TreeMap<String, Integer> met = new TreeMap<>();
        boolean right = true;
        for (long seed = 0; seed < RUNS && right; seed++) {
            right = new RefusedCallsTest(seed, met).goOnAlike(seed);
        }
        String[] needed = {
            "BEGIN -1", "READ", "NEXT -1", "SUM", "SUM 0", "WRITE -1", "WRITE 1", "WRITE 4", "SAVE -1", "SAVE 4",
            "UNDO -1", "UNDO 4", "COMMIT -1", "ROLLBACK -1", "ROW", "SEEN 0", "SEEN 1", "SAVEPOINTS -1",
            "SAVEPOINTS 3", "COUNT -1", "COUNT 4",
        };
        for (String answer : needed) {
            if (met.getOrDefault(answer, 0) < 100) {
                System.out.println("met too seldom: " + answer + ", " + met.getOrDefault(answer, 0) + " times");
                right = false;
            }
        }
        if (!right) {
            System.exit(1);
        }
        System.out.println(RUNS + " runs go on alike after calls that change nothing");
    }
}
