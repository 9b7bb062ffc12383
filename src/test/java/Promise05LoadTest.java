/** Promise 5, load: its edges. */
public final class Promise05LoadTest {
    private static final Due DUE = new Due("Promise 5, load");

    public static void main(String[] args) {
        firstAndLastWord();
        largestAndLeastWords();
        aWordOfZeroIsNoFault();
        wordsThatWait();
        wordsOfZones();
        wildWords();
        leftWordsAreNotSeen();
        lastAddresses();
        DUE.end();
    }

    private static void wrong(int a, int sort) {
        DUE.is("load(" + a + ")", Scene.busy().load(a), 0);
        Scene.onlyFault(DUE, "load(" + a + ")", sort, a, x -> x.load(a));
    }

    private static void firstAndLastWord() {
        DUE.sentence("The word at an address that is OWN");
        GuardHeap x = Scene.busy();
        DUE.is("load(14)", x.load(14), 31);
        DUE.is("load(23)", x.load(23), 777);
        DUE.is("load(38), the only word", x.load(38), 38);
        Scene.unchanged(DUE, "load(23)", y -> y.load(23));
    }

    private static void largestAndLeastWords() {
        DUE.sentence("The word at an address that is OWN");
        GuardHeap x = Scene.busy();
        for (int w : new int[] {Integer.MIN_VALUE, Integer.MAX_VALUE, -1, 0}) {
            x.store(35, w);
            DUE.is("load(35)", x.load(35), w);
        }
    }

    private static void aWordOfZeroIsNoFault() {
        DUE.sentence("The word at an address that is OWN");
        DUE.is("load(15)", Scene.busy().load(15), 0);
        Scene.unchanged(DUE, "load(15)", x -> x.load(15));
    }

    private static void wordsThatWait() {
        DUE.sentence("0 for others (a FAULT)");
        for (int a : new int[] {6, 7, 11, 2, 3}) {
            wrong(a, 1);
        }
    }

    private static void wordsOfZones() {
        DUE.sentence("0 for others (a FAULT)");
        for (int a : new int[] {13, 24, 29, 36, 37, 39, 40, 1, 4, 5, 12}) {
            wrong(a, 2);
        }
    }

    private static void wildWords() {
        DUE.sentence("0 for others (a FAULT)");
        for (int a : new int[] {0, 25, 26, 28, 41, 42, 99, 100, 101, -1, -14}) {
            wrong(a, 3);
        }
        for (int a : Due.FAR) {
            wrong(a, 3);
        }
    }

    private static void leftWordsAreNotSeen() {
        DUE.sentence("0 for others (a FAULT)");
        GuardHeap x = new GuardHeap(100, 1, 8);
        x.alloc(6);
        for (int a = 2; a < 8; a++) {
            x.store(a, 9);
        }
        x.free(2);
        DUE.is("LATE: load(2)", x.load(2), 0);
        x.alloc(90);
        x.alloc(3000);
        DUE.is("WILD: load(2)", x.load(2), 0);
        DUE.is("its KIND", x.fault(0, 0), 3);
        DUE.is("alloc(5)", x.alloc(5), 2);
        DUE.is("ZONE: load(7)", x.load(7), 0);
        DUE.is("its KIND", x.fault(0, 0), 2);
    }

    private static void lastAddresses() {
        DUE.sentence("0 for others (a FAULT)");
        for (int words = 64; words <= 68; words++) {
            GuardHeap x = new GuardHeap(words, 1, 0);
            x.alloc((words - 1) / 4 * 4 - 2);
            int last = (words - 1) / 4 * 4;
            DUE.is("the last word's sort", x.store(last - 1, 4), 0);
            DUE.is("the last word", x.load(last - 1), 4);
            for (int a = last; a <= words + 4; a++) {
                DUE.is("load(" + a + ")", x.load(a), 0);
                DUE.is("its KIND", x.fault(0, 0), a == last ? 2 : 3);
                DUE.is("its address", x.fault(0, 1), a);
            }
        }
    }
}
