/** Promise 6, store: its edges. */
public final class Promise06StoreTest {
    private static final Due DUE = new Due("Promise 6, store");

    public static void main(String[] args) {
        firstAndLastWord();
        aWordAloneChanges();
        wordsThatWait();
        wordsOfZones();
        wildWords();
        nothingComesIntoALaterBlock();
        DUE.end();
    }

    private static void wrong(int a, int sort) {
        for (int w : new int[] {1, 0, 14, Integer.MIN_VALUE}) {
            String call = "store(" + a + ", " + w + ")";
            DUE.is(call, Scene.busy().store(a, w), sort);
            Scene.onlyFault(DUE, call, sort, a, x -> x.store(a, w));
        }
    }

    private static void firstAndLastWord() {
        DUE.sentence("The word at an OWN address becomes w: 0.");
        GuardHeap x = Scene.busy();
        for (int a : new int[] {14, 23, 30, 35, 38}) {
            for (int w : new int[] {5, Integer.MIN_VALUE, Integer.MAX_VALUE, -1, 0}) {
                DUE.is("store(" + a + ", " + w + ")", x.store(a, w), 0);
                DUE.is("load(" + a + ")", x.load(a), w);
            }
        }
        DUE.is("no FAULT more", x.count(13), 2);
    }

    private static void aWordAloneChanges() {
        DUE.sentence("The word at an OWN address becomes w: 0.");
        for (int a : new int[] {14, 23}) {
            GuardHeap x = new GuardHeap(100, 1, 0);
            x.alloc(10);
            x.alloc(10);
            x.alloc(10);
            x.store(a, -1);
            for (int other = 2; other < 36; other++) {
                if (x.check(other) == 0) {
                    DUE.is("load(" + other + ")", x.load(other), other == a ? -1 : 0);
                }
            }
        }
    }

    private static void wordsThatWait() {
        DUE.sentence("Else nothing is done: the SORT (a FAULT).");
        for (int a : new int[] {6, 11, 2, 3}) {
            wrong(a, 1);
        }
    }

    private static void wordsOfZones() {
        DUE.sentence("Else nothing is done: the SORT (a FAULT).");
        for (int a : new int[] {13, 24, 29, 36, 37, 39, 40, 1, 4, 5, 12}) {
            wrong(a, 2);
        }
    }

    private static void wildWords() {
        DUE.sentence("Else nothing is done: the SORT (a FAULT).");
        for (int a : new int[] {0, 25, 28, 41, 99, 100, 101, -1, -14}) {
            wrong(a, 3);
        }
        for (int a : Due.FAR) {
            wrong(a, 3);
        }
    }

    private static void nothingComesIntoALaterBlock() {
        DUE.sentence("Else nothing is done: the SORT (a FAULT).");
        GuardHeap x = new GuardHeap(64, 1, 0);
        for (int a = 0; a < 64; a++) {
            DUE.is("store(" + a + ", 8)", x.store(a, 8), 3);
        }
        DUE.is("alloc(58)", x.alloc(58), 2);
        for (int a = 2; a < 60; a++) {
            DUE.is("load(" + a + ")", x.load(a), 0);
        }
    }
}
