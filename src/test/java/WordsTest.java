/** Promises 5 to 8: load, store, check, copy. */
public final class WordsTest {
    private static final Due DUE = new Due("WordsTest");
    private static final int[] OUTSIDE = {0, -1, 17, 64, 65, Integer.MAX_VALUE, Integer.MIN_VALUE};

    public static void main(String[] args) {
        loadAndStore();
        sortsOfAllAddresses();
        copyBothWays();
        copyBetweenBlocks();
        copyOfWrongCounts();
        copyOfWrongAddresses();
        copyOfWaitingWords();
        DUE.end();
    }

    /** A LIVE BLOCK of 3 words at 3 and one that waits, of 1 word, at 11. */
    private static GuardHeap oneLiveOneWaiting() {
        GuardHeap x = new GuardHeap(64, 2, 100);
        x.alloc(3);
        x.alloc(1);
        x.store(11, 5);
        x.free(11);
        return x;
    }

    private static void wrong(GuardHeap x, int a, int sort) {
        DUE.is("load(" + a + ")", x.load(a), 0);
        DUE.is("its KIND", x.fault(0, 0), sort);
        DUE.is("its address", x.fault(0, 1), a);
        DUE.is("store(" + a + ", 1)", x.store(a, 1), sort);
        DUE.is("its KIND", x.fault(0, 0), sort);
        DUE.is("its address", x.fault(0, 1), a);
    }

    private static void loadAndStore() {
        GuardHeap x = oneLiveOneWaiting();
        DUE.is("load(3)", x.load(3), 0);
        DUE.is("store(3, least)", x.store(3, Integer.MIN_VALUE), 0);
        DUE.is("store(5, most)", x.store(5, Integer.MAX_VALUE), 0);
        DUE.is("load(3)", x.load(3), Integer.MIN_VALUE);
        DUE.is("load(4)", x.load(4), 0);
        DUE.is("load(5)", x.load(5), Integer.MAX_VALUE);
        DUE.is("no FAULTS", x.count(13), 0);
        wrong(x, 2, 2);
        wrong(x, 6, 2);
        wrong(x, 11, 1);
        wrong(x, 12, 2);
        wrong(x, 10, 2);
        for (int a : OUTSIDE) {
            wrong(x, a, 3);
        }
        DUE.is("FAULTS", x.count(13), 24);
        DUE.is("load(3) after all", x.load(3), Integer.MIN_VALUE);
    }

    private static void sortsOfAllAddresses() {
        GuardHeap x = oneLiveOneWaiting();
        // chunk 1 to 8 with words 3 to 5, then chunk 9 to 16 with word 11
        String sorts = "32200022222122222";
        for (int a = 0; a < sorts.length(); a++) {
            DUE.is("check(" + a + ")", x.check(a), sorts.charAt(a) - '0');
        }
        DUE.is("check(17)", x.check(17), 3);
        DUE.is("check(-1)", x.check(-1), 3);
        DUE.is("check(63)", x.check(63), 3);
        DUE.is("check(64)", x.check(64), 3);
        DUE.is("check(most)", x.check(Integer.MAX_VALUE), 3);
        DUE.is("check(least)", x.check(Integer.MIN_VALUE), 3);
        DUE.is("no FAULTS", x.count(13), 0);
        x.alloc(3000);
        DUE.is("its words are FREE: check(11)", x.check(11), 3);
        DUE.is("its words are FREE: check(9)", x.check(9), 3);
    }

    private static GuardHeap sixWords() {
        GuardHeap x = new GuardHeap(100, 1, 100);
        x.alloc(6);
        x.alloc(2);
        for (int i = 0; i < 6; i++) {
            x.store(2 + i, i + 1);
        }
        return x;
    }

    private static void words(GuardHeap x, int from, int... due) {
        for (int i = 0; i < due.length; i++) {
            DUE.is("load(" + (from + i) + ")", x.load(from + i), due[i]);
        }
    }

    private static void copyBothWays() {
        GuardHeap x = sixWords();
        DUE.is("copy(2, 4, 4)", x.copy(2, 4, 4), 4);
        words(x, 2, 1, 2, 1, 2, 3, 4);
        GuardHeap y = sixWords();
        DUE.is("copy(4, 2, 4)", y.copy(4, 2, 4), 4);
        words(y, 2, 3, 4, 5, 6, 5, 6);
        DUE.is("copy(2, 2, 6)", y.copy(2, 2, 6), 6);
        words(y, 2, 3, 4, 5, 6, 5, 6);
    }

    private static void copyBetweenBlocks() {
        GuardHeap x = sixWords();
        DUE.is("copy(3, 10, 2)", x.copy(3, 10, 2), 2);
        words(x, 10, 2, 3);
        words(x, 2, 1, 2, 3, 4, 5, 6);
        DUE.is("copy(11, 7, 1)", x.copy(11, 7, 1), 1);
        words(x, 2, 1, 2, 3, 4, 5, 3);
    }

    private static void copyOfWrongCounts() {
        GuardHeap x = sixWords();
        DUE.is("copy(2, 4, -1)", x.copy(2, 4, -1), -1);
        DUE.is("copy(-9, -9, -1)", x.copy(-9, -9, -1), -1);
        DUE.is("copy(2, 4, least)", x.copy(2, 4, Integer.MIN_VALUE), -1);
        DUE.is("copy(2, 4, 3001)", x.copy(2, 4, 3001), -1);
        DUE.is("copy(-9, -9, 3001)", x.copy(-9, -9, 3001), -1);
        DUE.is("copy(2, 4, most)", x.copy(2, 4, Integer.MAX_VALUE), -1);
        DUE.is("copy(-9, 999, 0)", x.copy(-9, 999, 0), 0);
        DUE.is("no FAULTS", x.count(13), 0);
        DUE.is("copy(2, 4, 3000)", x.copy(2, 4, 3000), -8);
        DUE.is("FAULTS", x.count(13), 1);
        words(x, 2, 1, 2, 3, 4, 5, 6);
    }

    private static void wrongCopy(GuardHeap x, int from, int to, int n, int answer, int kind, int a) {
        String call = "copy(" + from + ", " + to + ", " + n + ")";
        DUE.is(call, x.copy(from, to, n), answer);
        DUE.is(call + ": its KIND", x.fault(0, 0), kind);
        DUE.is(call + ": its address", x.fault(0, 1), a);
    }

    private static void copyOfWrongAddresses() {
        GuardHeap x = sixWords();
        wrongCopy(x, 1, 2, 1, -2, 2, 1);
        wrongCopy(x, 6, 2, 3, -4, 2, 8);
        wrongCopy(x, 2, 1, 3, -5, 2, 1);
        wrongCopy(x, 2, 6, 3, -7, 2, 8);
        wrongCopy(x, 6, 6, 3, -4, 2, 8);
        wrongCopy(x, 1, 0, 3, -2, 2, 1);
        wrongCopy(x, 2, 0, 3, -5, 3, 0);
        wrongCopy(x, 2, -1, 3, -5, 3, -1);
        wrongCopy(x, -1, 2, 3, -2, 3, -1);
        wrongCopy(x, Integer.MAX_VALUE, 2, 3000, -2, 3, Integer.MAX_VALUE);
        wrongCopy(x, 2, Integer.MAX_VALUE, 6, -8, 3, Integer.MAX_VALUE);
        wrongCopy(x, Integer.MIN_VALUE, 2, 3000, -2, 3, Integer.MIN_VALUE);
        wrongCopy(x, 2, Integer.MIN_VALUE, 1, -3, 3, Integer.MIN_VALUE);
        DUE.is("one FAULT each", x.count(13), 13);
        words(x, 2, 1, 2, 3, 4, 5, 6);
    }

    private static void copyOfWaitingWords() {
        GuardHeap x = sixWords();
        x.free(10);
        wrongCopy(x, 2, 10, 1, -3, 1, 10);
        wrongCopy(x, 11, 2, 1, -2, 1, 11);
    }
}
