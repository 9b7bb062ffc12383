import java.util.NoSuchElementException;

/**
 * Rule 7 of LANGUAGE.md: whatever the arguments and however many the calls, nothing but the
 * document's NoSuchElementException comes out. What is answered behind the 512th call is not asked.
 */
public final class WildCallsTest {
    private static final Due DUE = new Due("WildCallsTest");
    private static final int[] NUMBERS = {
        Integer.MIN_VALUE, Integer.MIN_VALUE + 1, -3001, -64, -4, -2, -1, 0, 1, 2, 3, 4, 5, 6, 15, 16,
        17, 31, 32, 33, 61, 62, 63, 64, 65, 68, 2997, 2999, 3000, 3001, 65536, 1 << 30,
        Integer.MAX_VALUE - 2999, Integer.MAX_VALUE - 8, Integer.MAX_VALUE - 1, Integer.MAX_VALUE};

    public static void main(String[] args) {
        for (int words : new int[] {64, 65, 66, 67, 100, 3000}) {
            for (int red : new int[] {1, 5, 8}) {
                allCalls(words, red, 0);
                allCalls(words, red, 70);
                allCalls(words, red, 3000);
            }
        }
        DUE.end();
    }

    private static void allCalls(int words, int red, int cap) {
        GuardHeap x = new GuardHeap(words, red, cap);
        for (int round = 0; round < 3; round++) {
            for (int a : NUMBERS) {
                for (int b : NUMBERS) {
                    callsWithTwo(x, a, b);
                }
                callsWithOne(x, a);
            }
        }
    }

    private static void callsWithOne(GuardHeap x, int a) {
        noThrow("alloc", a, 0, () -> x.alloc(a));
        noThrow("load", a, 0, () -> x.load(a));
        noThrow("check", a, 0, () -> x.check(a));
        noThrow("sizeOf", a, 0, () -> x.sizeOf(a));
        noThrow("leakScan", 0, 0, () -> x.leakScan());
        noThrow("pointers", 0, 0, () -> x.pointers());
        noThrow("count", a, 0, () -> x.count(a));
        noThrow("freeMany", a, 0, () -> x.freeMany(a));
        noThrow("waiting", a, 0, () -> x.waiting(a));
        noThrow("free", a, 0, () -> x.free(a));
        int left = x.alloc(3);
        noThrow("store", left, a, () -> x.store(left, a));
    }

    private static void callsWithTwo(GuardHeap x, int a, int b) {
        noThrow("resize", a, b, () -> x.resize(a, b));
        noThrow("store", a, b, () -> x.store(a, b));
        noThrow("copy", a, b, () -> x.copy(a, b, 3000));
        noThrow("copy n", a, b, () -> x.copy(a, a, b));
        noThrow("setRoot", a, b, () -> x.setRoot(a, b) ? 1 : 0);
        noThrow("leak", a, b, () -> x.leak(a, b));
        noThrow("freeAt", a, b, () -> x.freeAt(a, b));
        mayThrow("describe", a, b, () -> x.describe(a, b));
        mayThrow("fault", a, b, () -> x.fault(a, b));
    }

    private static void noThrow(String call, int a, int b, Due.Call made) {
        boolean answered = false;
        try {
            made.answer();
            answered = true;
        } catch (RuntimeException wrong) {
            System.out.println(call + "(" + a + ", " + b + ") threw " + wrong);
        }
        DUE.holds(call + " answers", answered);
    }

    private static void mayThrow(String call, int a, int b, Due.Call made) {
        noThrow(call, a, b, () -> {
            try {
                return made.answer();
            } catch (NoSuchElementException fine) {
                return 0;
            }
        });
    }
}
