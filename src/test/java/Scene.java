import java.util.function.Consumer;
import java.util.function.Supplier;

/**
 * Heaps to ask, and what can be seen of one. A heap is good for 512 calls, so that a look at all of
 * it comes once: whether a call changes something is asked of two heaps that were made alike.
 */
final class Scene {
    private Scene() {
    }

    /**
     * 100 words, RED 1, CAP 12. LIVE: 10 words at 14, 6 at 30, 1 at 38. Waiting: 6 words at 6, then 2
     * at 2. FREE: the CHUNK of 4 at 25. TOP is 41. ROOT 3 leads to 14, and that block to 30; the one
     * at 38 is LOST. 2 FAULTS.
     */
    static GuardHeap busy() {
        GuardHeap x = new GuardHeap(100, 1, 12);
        for (int n : new int[] {2, 6, 10, 2, 6, 1}) {
            x.alloc(n);
        }
        x.store(7, 55);
        x.store(14, 31);
        x.store(23, 777);
        x.store(30, Integer.MIN_VALUE);
        x.store(38, 38);
        x.setRoot(3, 23);
        x.load(0);
        x.free(26);
        x.free(6);
        x.free(2);
        x.free(26);
        x.leakScan();
        return x;
    }

    /**
     * LIVE: 2 words at 2, 5 at 6, 2 at 14, all 0. An earlier block has left 14 in the words that lie
     * on both sides of the 5 words now: 4, 5 and 11, which are of ZONES.
     */
    static GuardHeap leftInZones() {
        GuardHeap x = new GuardHeap(100, 1, 0);
        x.alloc(10);
        x.alloc(2);
        for (int a = 2; a <= 11; a++) {
            x.store(a, 14);
        }
        x.free(2);
        x.alloc(2);
        x.alloc(5);
        return x;
    }

    static void unchanged(Due due, String call, Consumer<GuardHeap> calls) {
        unchanged(due, call, Scene::busy, calls);
    }

    static void unchanged(Due due, String call, Supplier<GuardHeap> made, Consumer<GuardHeap> calls) {
        GuardHeap called = made.get();
        calls.accept(called);
        due.same(call + " changes something", look(called) + faults(called), look(made.get()) + faults(made.get()));
    }

    /** One FAULT of this kind and address is all that the call leaves. */
    static void onlyFault(Due due, String call, int kind, int a, Consumer<GuardHeap> calls) {
        GuardHeap before = busy();
        GuardHeap called = busy();
        calls.accept(called);
        due.is(call + ": FAULTS", called.count(13), before.count(13) + 1);
        due.is(call + ": the FAULT's KIND", called.fault(0, 0), kind);
        due.is(call + ": the FAULT's address", called.fault(0, 1), a);
        due.is(call + ": the FAULT ahead of it", called.fault(1, 1), before.fault(0, 1));
        due.same(call + " changes something", look(called), look(before));
    }

    private static void line(StringBuilder text, String call, int answer) {
        text.append(call).append(" = ").append(answer).append('\n');
    }

    /** All but the FAULTS; the latest leakScan() is lost by it. */
    static String look(GuardHeap x) {
        StringBuilder text = new StringBuilder();
        for (int what = 0; what <= 16; what++) {
            if (what != 13) {
                line(text, "count(" + what + ")", x.count(what));
            }
        }
        addresses(text, x);
        chunks(text, x);
        for (int k = 0; k <= 25 && k <= x.count(3); k++) {
            line(text, "waiting(" + k + ")", x.waiting(k));
        }
        line(text, "pointers()", x.pointers());
        leaks(text, x);
        line(text, "leakScan()", x.leakScan());
        leaks(text, x);
        return text.toString();
    }

    private static void addresses(StringBuilder text, GuardHeap x) {
        int latest = 0;
        for (int a = -1; a <= 100; a++) {
            int sort = x.check(a);
            line(text, "check(" + a + ")", sort);
            if (sort == 0) {
                line(text, "load(" + a + ")", x.load(a));
            }
            if (sort != 3 && x.describe(a, 0) != latest) {
                latest = x.describe(a, 0);
                for (int what = 0; what < 6; what++) {
                    line(text, "describe(" + a + ", " + what + ")", x.describe(a, what));
                }
            }
        }
    }

    private static void chunks(StringBuilder text, GuardHeap x) {
        for (int size = 4; size <= 100; size += 4) {
            int many = x.freeMany(size);
            line(text, "freeMany(" + size + ")", many);
            for (int k = 0; k < many && k < 25; k++) {
                line(text, "freeAt(" + size + ", " + k + ")", x.freeAt(size, k));
            }
        }
    }

    private static void leaks(StringBuilder text, GuardHeap x) {
        for (int i = 0; i < 8 && x.leak(i, 0) != GuardHeap.NONE; i++) {
            for (int what = 0; what < 4; what++) {
                line(text, "leak(" + i + ", " + what + ")", x.leak(i, what));
            }
        }
    }

    static String faults(GuardHeap x) {
        StringBuilder text = new StringBuilder();
        line(text, "count(13)", x.count(13));
        for (int k = 0; k < 32 && k < x.count(13); k++) {
            line(text, "fault(" + k + ", 0)", x.fault(k, 0));
            line(text, "fault(" + k + ", 1)", x.fault(k, 1));
        }
        return text.toString();
    }

    /** A heap of 3000 words, RED 1 and CAP 0 whose CHUNKS have these SIZES, side by side from 1 on. */
    static GuardHeap chunksOf(Due due, int... sizes) {
        GuardHeap x = new GuardHeap(3000, 1, 0);
        int at = 1;
        for (int size : sizes) {
            due.is("a CHUNK of " + size, x.alloc(size - 2), at + 1);
            at += size;
        }
        return x;
    }

    static void free(Due due, GuardHeap x, int... starts) {
        for (int p : starts) {
            due.is("free(" + p + ")", x.free(p), 0);
        }
    }

    /** These are all FREE CHUNKS of a SIZE, in the order of freeAt. */
    static void chain(Due due, GuardHeap x, int size, int... addresses) {
        due.is("freeMany(" + size + ")", x.freeMany(size), addresses.length);
        for (int k = 0; k < addresses.length; k++) {
            due.is("freeAt(" + size + ", " + k + ")", x.freeAt(size, k), addresses[k]);
        }
        due.is("freeAt behind the last of " + size, x.freeAt(size, addresses.length), GuardHeap.NONE);
        due.is("freeAt(" + size + ", -1)", x.freeAt(size, -1), GuardHeap.NONE);
    }
}
