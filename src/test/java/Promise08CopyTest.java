/** Promise 8, copy: its edges. */
public final class Promise08CopyTest {
    private static final Due DUE = new Due("Promise 8, copy");

    public static void main(String[] args) {
        belowZero();
        above3000();
        just3000();
        noWords();
        oneWord();
        allWordsOfTheLargestBlock();
        overlaps();
        readOneTooFar();
        writtenOneTooFar();
        readAheadOfWritten();
        sortOfTheFirstOne();
        nothingIsDone();
        addressesThatWrap();
        everyEnd();
        DUE.end();
    }

    private static GuardHeap sixAndTwo() {
        GuardHeap x = new GuardHeap(100, 1, 100);
        x.alloc(6);
        x.alloc(2);
        for (int i = 0; i < 6; i++) {
            x.store(2 + i, i + 1);
        }
        return x;
    }

    private static void refused(int from, int to, int n) {
        String call = "copy(" + from + ", " + to + ", " + n + ")";
        DUE.is(call, sixAndTwo().copy(from, to, n), -1);
        Scene.unchanged(DUE, call, Promise08CopyTest::sixAndTwo, x -> x.copy(from, to, n));
    }

    private static void belowZero() {
        DUE.sentence("-1: n is below 0 or above 3000, nothing is done.");
        for (int n : new int[] {-1, -2, -3000, Integer.MIN_VALUE}) {
            refused(2, 4, n);
            refused(0, -1, n);
        }
    }

    private static void above3000() {
        DUE.sentence("-1: n is below 0 or above 3000, nothing is done.");
        for (int n : new int[] {3001, 3002, 1 << 30, Integer.MAX_VALUE}) {
            refused(2, 4, n);
            refused(0, -1, n);
        }
    }

    private static void wrong(int from, int to, int n, int answer, int kind, int a) {
        String call = "copy(" + from + ", " + to + ", " + n + ")";
        DUE.is(call, Scene.busy().copy(from, to, n), answer);
        Scene.onlyFault(DUE, call, kind, a, x -> x.copy(from, to, n));
    }

    private static void just3000() {
        DUE.sentence("-1: n is below 0 or above 3000, nothing is done.");
        wrong(14, 30, 3000, -12, 2, 24);
        wrong(41, 30, 2999, -2, 3, 41);
    }

    private static void noWords() {
        DUE.sentence("n words from one address on come to those from another one on, as if all were read first: n.");
        int[] addresses = {14, 13, 6, 0, -1, 41, 100, Integer.MIN_VALUE, Integer.MAX_VALUE};
        for (int a : addresses) {
            String call = "copy(" + a + ", 14, 0) and back";
            DUE.is(call, Scene.busy().copy(a, 14, 0), 0);
            DUE.is(call, Scene.busy().copy(14, a, 0), 0);
            Scene.unchanged(DUE, call, x -> {
                x.copy(a, 14, 0);
                x.copy(14, a, 0);
                x.copy(a, a, 0);
            });
        }
    }

    private static void oneWord() {
        DUE.sentence("n words from one address on come to those from another one on, as if all were read first: n.");
        GuardHeap x = sixAndTwo();
        DUE.is("copy(7, 10, 1), the last to the first", x.copy(7, 10, 1), 1);
        DUE.is("copy(2, 11, 1), the first to the last", x.copy(2, 11, 1), 1);
        DUE.is("load(10)", x.load(10), 6);
        DUE.is("load(11)", x.load(11), 1);
        DUE.is("copy(10, 10, 2), upon itself", x.copy(10, 10, 2), 2);
        DUE.is("load(11)", x.load(11), 1);
        DUE.is("no FAULT", x.count(13), 0);
    }

    private static void allWordsOfTheLargestBlock() {
        DUE.sentence("n words from one address on come to those from another one on, as if all were read first: n.");
        GuardHeap x = new GuardHeap(3000, 1, 0);
        x.alloc(2994);
        x.store(2, 5);
        x.store(2994, 6);
        DUE.is("all upon themselves", x.copy(2, 2, 2994), 2994);
        DUE.is("all by one", x.copy(2, 3, 2993), 2993);
        DUE.is("load(3)", x.load(3), 5);
        DUE.is("load(2995)", x.load(2995), 6);
        DUE.is("no FAULT", x.count(13), 0);
        DUE.is("one too many is read", x.copy(2, 2, 2995), -2996);
        DUE.is("its KIND", x.fault(0, 0), 2);
        DUE.is("its address", x.fault(0, 1), 2996);
        DUE.is("one too many is written", x.copy(2, 3, 2994), -2 - 2994 - 2993);
        DUE.is("its address", x.fault(0, 1), 2996);
        DUE.is("the last one to the end", x.copy(2995, 2, 3000), -3);
        DUE.is("FAULTS", x.count(13), 3);
    }

    private static void overlaps() {
        DUE.sentence("as if all were read first");
        for (int from = 2; from <= 7; from++) {
            for (int to = 2; to <= 7; to++) {
                int n = 8 - Math.max(from, to);
                GuardHeap x = sixAndTwo();
                String call = "copy(" + from + ", " + to + ", " + n + ")";
                DUE.is(call, x.copy(from, to, n), n);
                for (int a = 2; a <= 7; a++) {
                    int due = a >= to && a < to + n ? a - to + from - 1 : a - 1;
                    DUE.is(call + ": load(" + a + ")", x.load(a), due);
                }
            }
        }
    }

    private static void readOneTooFar() {
        DUE.sentence("-2 less how many words ahead of the first one that is not so (those that are read first, then those that are written)");
        // the six words 30 to 35; 36 is of their zone
        for (int own = 0; own <= 6; own++) {
            wrong(36 - own, 14, own + 1, -2 - own, 2, 36);
        }
        wrong(29, 14, 1, -2, 2, 29);
        wrong(29, 14, 7, -2, 2, 29);
    }

    private static void writtenOneTooFar() {
        DUE.sentence("-2 less how many words ahead of the first one that is not so (those that are read first, then those that are written)");
        for (int own = 0; own <= 6; own++) {
            wrong(14, 36 - own, own + 1, -2 - (own + 1) - own, 2, 36);
        }
        wrong(14, 29, 1, -3, 2, 29);
        wrong(14, 29, 7, -9, 2, 29);
    }

    private static void readAheadOfWritten() {
        DUE.sentence("those that are read first, then those that are written");
        wrong(30, 0, 7, -8, 2, 36);
        wrong(37, 0, 1, -2, 2, 37);
        wrong(0, 37, 1, -2, 3, 0);
        wrong(30, 0, 6, -8, 3, 0);
    }

    private static void sortOfTheFirstOne() {
        DUE.sentence("that one is the FAULT");
        wrong(6, 14, 2, -2, 1, 6);
        wrong(14, 2, 2, -4, 1, 2);
        wrong(41, 14, 2, -2, 3, 41);
        wrong(14, 26, 2, -4, 3, 26);
        wrong(39, 14, 2, -2, 2, 39);
    }

    private static void nothingIsDone() {
        DUE.sentence("Else, if one of these addresses is not OWN, nothing is done either");
        GuardHeap x = sixAndTwo();
        DUE.is("copy(2, 10, 3)", x.copy(2, 10, 3), -7);
        DUE.is("load(10)", x.load(10), 0);
        DUE.is("load(11)", x.load(11), 0);
        DUE.is("copy(6, 2, 3)", x.copy(6, 2, 3), -4);
        DUE.is("load(2)", x.load(2), 1);
        DUE.is("load(3)", x.load(3), 2);
    }

    private static void addressesThatWrap() {
        DUE.sentence("-2 less how many words ahead of the first one that is not so (those that are read first, then those that are written)");
        for (int n : new int[] {1, 2, 10}) {
            for (int a : Due.FAR) {
                wrong(a, 14, n, -2, 3, a);
                wrong(14, a, n, -2 - n, 3, a);
            }
            wrong(-1, 14, n, -2, 3, -1);
            wrong(14, -1, n, -2 - n, 3, -1);
            wrong(0, 14, n, -2, 3, 0);
            wrong(14, 0, n, -2 - n, 3, 0);
        }
        wrong(Integer.MAX_VALUE, 14, 3000, -2, 3, Integer.MAX_VALUE);
    }

    private static void everyEnd() {
        DUE.sentence("Else, if one of these addresses is not OWN, nothing is done either");
        for (int words = 64; words <= 68; words++) {
            GuardHeap x = new GuardHeap(words, 1, 0);
            int n = (words - 1) / 4 * 4 - 2;
            x.alloc(n);
            DUE.is(words + " words: all", x.copy(2, 2, n), n);
            DUE.is(words + " words: one more", x.copy(2, 2, n + 1), -2 - n);
            DUE.is(words + " words: the most", x.copy(2, 2, 3000), -2 - n);
            DUE.is(words + " words: its address", x.fault(0, 1), 2 + n);
        }
    }
}
