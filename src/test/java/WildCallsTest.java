import java.util.Random;

// No call may throw or fail to end, for any arguments in any state, also long after the 512th
// call, where the answers themselves are free.
public final class WildCallsTest {
    private static final int[] NUMBERS = {
        Integer.MIN_VALUE, Integer.MIN_VALUE + 1, -65, -64, -4, -1, 0, 1, 2, 3, 4, 5, 6, 7, 12, 31, 32, 62, 63, 64,
        65, 255, 256, 1 << 16, Integer.MAX_VALUE - 1, Integer.MAX_VALUE,
    };

    private final Random random;
    private final SerializableStore store;

    private WildCallsTest(long seed) {
        random = new Random(seed);
        store = new SerializableStore(any());
    }

    private int any() {
        return NUMBERS[random.nextInt(NUMBERS.length)];
    }

    private int session() {
        return random.nextInt(4) == 0 ? any() : random.nextInt(4);
    }

    private int key() {
        return random.nextInt(4) == 0 ? any() : random.nextInt(64);
    }

    private void call() {
        int session = session();
        int key = key();
        switch (random.nextInt(16)) {
            case 0: store.read(session, key); break;
            case 1: store.next(session, key); break;
            case 2: store.sum(session, key, key()); break;
            case 3: case 4: store.write(session, key, any(), random.nextBoolean()); break;
            case 5: store.save(session); break;
            case 6: store.undo(session); break;
            case 7: store.commit(session); break;
            case 8: store.rollback(session); break;
            case 9: store.sync(); break;
            case 10: if (random.nextInt(50) == 0) store.crash(); break;
            case 11: store.row(key); break;
            case 12: store.seen(session, key); break;
            case 13: store.savepoints(session); break;
            case 14: store.count(any()); break;
            default: store.begin(session, random.nextInt(4) != 0); break;
        }
    }

    public static void main(String[] args) {
        for (int seed = 0; seed < 20; seed++) {
            WildCallsTest test = new WildCallsTest(seed);
            for (int i = 0; i < 50000; i++) {
                test.call();
            }
        }
        System.out.println("no call threw");
    }
}
