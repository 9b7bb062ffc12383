import java.util.NoSuchElementException;
import java.util.Random;

/** All promises: many runs of 512 calls drawn from fixed seeds, GuardHeap against PlainHeap. */
public final class ModelTest {
    private static final Due DUE = new Due("ModelTest");
    private static final int RUNS = 1500;
    private static final int CALLS = 512;
    private static final int[] WILD = {
        0, 1, -1, 2, 3, 4, 16, 31, 32, 33, 63, 64, 65, 68, 2999, 3000, 3001,
        Integer.MAX_VALUE, Integer.MAX_VALUE - 1, Integer.MIN_VALUE, Integer.MIN_VALUE + 1};
    private static final String[] NAMES = {
        "alloc", "free", "resize", "load", "store", "check", "copy", "sizeOf", "describe", "setRoot",
        "leakScan", "leak", "pointers", "count", "freeMany", "freeAt", "waiting", "fault"};

    private final Random random;
    private final GuardHeap heap;
    private final PlainHeap plain;
    private final int[] weights = new int[NAMES.length];
    private final int[] starts = new int[40];
    private final int words;
    private final int largest;

    private ModelTest(long seed) {
        random = new Random(seed);
        words = seed % 10 == 0 ? wild() : 64 + random.nextInt(random.nextBoolean() ? 400 : 2937);
        int red = seed % 7 == 0 ? wild() : 1 + random.nextInt(random.nextBoolean() ? 2 : 8);
        int cap = seed % 5 == 0 ? wild() : random.nextInt(random.nextBoolean() ? 120 : 1500);
        heap = new GuardHeap(words, red, cap);
        plain = new PlainHeap(words, red, cap);
        largest = new int[] {4, 20, 70, 150, 400}[random.nextInt(5)];
        for (int i = 0; i < weights.length; i++) {
            weights[i] = 1 + random.nextInt(4);
        }
        weights[0] = 10 + random.nextInt(40);
        weights[1] = 5 + random.nextInt(40);
        weights[2] = random.nextInt(20);
        weights[4] = 10 + random.nextInt(20);
    }

    public static void main(String[] args) {
        for (long seed = 1; seed <= RUNS; seed++) {
            new ModelTest(seed).run(seed);
        }
        DUE.end();
    }

    private int wild() {
        return WILD[random.nextInt(WILD.length)];
    }

    private int below(int bound) {
        return random.nextInt(20) == 0 ? wild() : random.nextInt(bound);
    }

    private int size() {
        int die = random.nextInt(60);
        return die == 0 ? wild() : die < 10 ? 1 + random.nextInt(250) : 1 + random.nextInt(largest);
    }

    private int start() {
        return starts[random.nextInt(starts.length)];
    }

    private int address() {
        int die = random.nextInt(30);
        if (die == 0) {
            return wild();
        }
        if (die == 1) {
            return random.nextInt(3000);
        }
        return start() + random.nextInt(9) - (die < 9 ? 4 : 0);
    }

    private int draw() {
        int sum = 0;
        for (int weight : weights) {
            sum += weight;
        }
        int left = random.nextInt(sum);
        int i = 0;
        while (left >= weights[i]) {
            left -= weights[i];
            i++;
        }
        return i;
    }

    private int[] arguments(int call) {
        switch (call) {
            case 0: return new int[] {size()};
            case 1: return new int[] {random.nextInt(9) == 0 ? address() : start()};
            case 2: return new int[] {random.nextInt(9) == 0 ? address() : start(), size()};
            case 4: return new int[] {address(), random.nextInt(4) == 0 ? wild() : address()};
            case 6: return new int[] {address(), address(), below(random.nextBoolean() ? 4 : 20)};
            case 8: return new int[] {address(), below(7)};
            case 9: return new int[] {below(17), address()};
            case 11: return new int[] {below(12), below(5)};
            case 13: return new int[] {below(18)};
            case 14: return new int[] {4 * below(60)};
            case 15: return new int[] {4 * below(random.nextBoolean() ? 20 : 80), below(4)};
            case 16: return new int[] {below(8)};
            case 17: return new int[] {below(36), below(3)};
            default: return new int[] {address()};
        }
    }

    private static long guarded(GuardHeap x, int call, int[] a) {
        switch (call) {
            case 0: return x.alloc(a[0]);
            case 1: return x.free(a[0]);
            case 2: return x.resize(a[0], a[1]);
            case 3: return x.load(a[0]);
            case 4: return x.store(a[0], a[1]);
            case 5: return x.check(a[0]);
            case 6: return x.copy(a[0], a[1], a[2]);
            case 7: return x.sizeOf(a[0]);
            case 8: return x.describe(a[0], a[1]);
            case 9: return x.setRoot(a[0], a[1]) ? 1 : 0;
            case 10: return x.leakScan();
            case 11: return x.leak(a[0], a[1]);
            case 12: return x.pointers();
            case 13: return x.count(a[0]);
            case 14: return x.freeMany(a[0]);
            case 15: return x.freeAt(a[0], a[1]);
            case 16: return x.waiting(a[0]);
            default: return x.fault(a[0], a[1]);
        }
    }

    private static long plain(PlainHeap x, int call, int[] a) {
        switch (call) {
            case 0: return x.alloc(a[0]);
            case 1: return x.free(a[0]);
            case 2: return x.resize(a[0], a[1]);
            case 3: return x.load(a[0]);
            case 4: return x.store(a[0], a[1]);
            case 5: return x.check(a[0]);
            case 6: return x.copy(a[0], a[1], a[2]);
            case 7: return x.sizeOf(a[0]);
            case 8: return x.describe(a[0], a[1]);
            case 9: return x.setRoot(a[0], a[1]) ? 1 : 0;
            case 10: return x.leakScan();
            case 11: return x.leak(a[0], a[1]);
            case 12: return x.pointers();
            case 13: return x.count(a[0]);
            case 14: return x.freeMany(a[0]);
            case 15: return x.freeAt(a[0], a[1]);
            case 16: return x.waiting(a[0]);
            default: return x.fault(a[0], a[1]);
        }
    }

    private static String told(long answer) {
        return answer == Long.MIN_VALUE ? "NoSuchElementException" : Long.toString(answer);
    }

    private void compare(long seed, int call, int[] a) {
        long got;
        long want;
        try {
            got = guarded(heap, call, a);
        } catch (NoSuchElementException thrown) {
            got = Long.MIN_VALUE;
        }
        try {
            want = plain(plain, call, a);
        } catch (NoSuchElementException thrown) {
            want = Long.MIN_VALUE;
        }
        if ((call == 0 || call == 2) && want > 0) {
            starts[random.nextInt(starts.length)] = (int) want;
        }
        String text = "seed " + seed + ": " + NAMES[call] + java.util.Arrays.toString(a);
        DUE.holds(text + " answered " + told(got) + ", due is " + told(want), got == want);
    }

    private void run(long seed) {
        int looks = 17 + 16 + 32;
        for (int i = 0; i < CALLS - looks; i++) {
            int call = draw();
            compare(seed, call, arguments(call));
        }
        for (int what = 0; what < 17; what++) {
            compare(seed, 13, new int[] {what});
        }
        for (int size = 4; size <= 64; size += 4) {
            compare(seed, 14, new int[] {size});
        }
        for (int k = 0; k < 32; k++) {
            compare(seed, 17, new int[] {k, 1});
        }
    }
}
