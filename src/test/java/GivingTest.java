/** Promises 1 to 4: a new object, alloc, free, resize. */
public final class GivingTest {
    private static final Due DUE = new Due("GivingTest");
    private static final int[] WRONG_STARTS = {0, 1, -1, 7, 200, Integer.MAX_VALUE, Integer.MIN_VALUE};

    public static void main(String[] args) {
        limitsAreTheNearest();
        newObjectHasNothing();
        allocAnswersStarts();
        allocFillsTheHeapToItsEnd();
        allocClearsWords();
        allocLetsWaitingBlocksGoOneByOne();
        allocInVainEmptiesTheQueue();
        freePutsIntoTheQueue();
        freeOfWrongAddresses();
        freeBeyondCap();
        resizeMovesWords();
        resizeLeavesTheZoneBehind();
        resizeKeepsOldUntilTheNewIsGiven();
        resizeInVain();
        resizeWrong();
        DUE.end();
    }

    private static void limits(int words, int red, int cap, int w, int r, int c) {
        GuardHeap x = new GuardHeap(words, red, cap);
        DUE.is("WORDS of " + words, x.count(14), w);
        DUE.is("RED of " + red, x.count(15), r);
        DUE.is("CAP of " + cap, x.count(16), c);
    }

    private static void limitsAreTheNearest() {
        limits(63, 0, -1, 64, 1, 0);
        limits(64, 1, 0, 64, 1, 0);
        limits(65, 2, 1, 65, 2, 1);
        limits(3000, 8, 3000, 3000, 8, 3000);
        limits(3001, 9, 3001, 3000, 8, 3000);
        limits(Integer.MIN_VALUE, Integer.MIN_VALUE, Integer.MIN_VALUE, 64, 1, 0);
        limits(Integer.MAX_VALUE, Integer.MAX_VALUE, Integer.MAX_VALUE, 3000, 8, 3000);
    }

    private static void newObjectHasNothing() {
        GuardHeap x = new GuardHeap(100, 2, 50);
        for (int what = 1; what <= 11; what++) {
            DUE.is("count(" + what + ")", x.count(what), 0);
        }
        DUE.is("TOP", x.count(0), 1);
        DUE.is("highest TOP", x.count(12), 1);
        DUE.is("FAULTS", x.count(13), 0);
        DUE.is("check(1)", x.check(1), 3);
        DUE.is("waiting(0)", x.waiting(0), GuardHeap.NONE);
        DUE.is("leak(0, 0)", x.leak(0, 0), GuardHeap.NONE);
        DUE.is("leakScan()", x.leakScan(), 0);
        DUE.is("pointers()", x.pointers(), 0);
        DUE.is("NONE", GuardHeap.NONE, -1);
    }

    private static void allocAnswersStarts() {
        GuardHeap x = new GuardHeap(200, 1, 0);
        DUE.is("alloc(2), just 4 words", x.alloc(2), 2);
        DUE.is("alloc(3), 8 words", x.alloc(3), 6);
        DUE.is("alloc(6), just 8 words", x.alloc(6), 14);
        DUE.is("TOP", x.count(0), 21);
        DUE.is("alloc(0)", x.alloc(0), 0);
        DUE.is("alloc(least)", x.alloc(Integer.MIN_VALUE), 0);
        DUE.is("GIVEN", x.count(7), 3);
        GuardHeap wide = new GuardHeap(200, 8, 0);
        DUE.is("RED 8: alloc(1)", wide.alloc(1), 9);
        DUE.is("RED 8: alloc(4), just 20 words", wide.alloc(4), 29);
        DUE.is("RED 8: TOP", wide.count(0), 41);
    }

    private static void allocFillsTheHeapToItsEnd() {
        GuardHeap x = new GuardHeap(64, 1, 0);
        DUE.is("64 words: alloc(59)", x.alloc(59), 0);
        DUE.is("64 words: alloc(58)", x.alloc(58), 2);
        DUE.is("64 words: TOP", x.count(0), 61);
        DUE.is("64 words: alloc(1)", x.alloc(1), 0);
        GuardHeap y = new GuardHeap(65, 1, 0);
        DUE.is("65 words: alloc(63)", y.alloc(63), 0);
        DUE.is("65 words: alloc(62)", y.alloc(62), 2);
        DUE.is("65 words: the last word", y.check(64), 2);
        GuardHeap z = new GuardHeap(3000, 1, 0);
        DUE.is("3000 words: alloc(most)", z.alloc(Integer.MAX_VALUE), 0);
        DUE.is("3000 words: alloc(most - 3)", z.alloc(Integer.MAX_VALUE - 3), 0);
        DUE.is("3000 words: alloc(2995)", z.alloc(2995), 0);
        DUE.is("3000 words: alloc(2994)", z.alloc(2994), 2);
    }

    private static void allocClearsWords() {
        GuardHeap x = new GuardHeap(64, 1, 0);
        x.alloc(2);
        x.store(2, 9);
        x.store(3, 8);
        x.free(2);
        DUE.is("alloc(2) again", x.alloc(2), 2);
        DUE.is("load(2)", x.load(2), 0);
        DUE.is("load(3)", x.load(3), 0);
    }

    private static GuardHeap threeThatWait() {
        GuardHeap x = new GuardHeap(64, 1, 3000);
        x.alloc(18);
        x.alloc(18);
        x.alloc(18);
        x.free(22);
        x.free(2);
        x.free(42);
        return x;
    }

    private static void allocLetsWaitingBlocksGoOneByOne() {
        GuardHeap x = threeThatWait();
        DUE.is("alloc(18)", x.alloc(18), 22);
        DUE.is("went", x.count(9), 1);
        DUE.is("waiting(0)", x.waiting(0), 2);
        DUE.is("waiting(1)", x.waiting(1), 42);
        DUE.is("waiting words", x.count(4), 40);
        DUE.is("alloc(6)", x.alloc(6), 2);
        DUE.is("splits", x.count(10), 1);
        DUE.is("freeAt(12, 0)", x.freeAt(12, 0), 9);
        DUE.is("still waits", x.waiting(0), 42);
    }

    private static void allocInVainEmptiesTheQueue() {
        GuardHeap x = threeThatWait();
        DUE.is("alloc(0)", x.alloc(0), 0);
        DUE.is("all wait", x.count(3), 3);
        DUE.is("alloc(most)", x.alloc(Integer.MAX_VALUE), 0);
        DUE.is("none waits", x.count(3), 0);
        DUE.is("went", x.count(9), 3);
        DUE.is("GIVEN", x.count(7), 3);
        DUE.is("uppermost", x.freeAt(20, 0), 41);
        DUE.is("lowest", x.freeAt(20, 2), 21);
    }

    private static void freePutsIntoTheQueue() {
        GuardHeap x = new GuardHeap(200, 1, 8);
        x.alloc(2);
        x.alloc(2);
        x.alloc(2);
        DUE.is("free(2)", x.free(2), 0);
        DUE.is("free(6)", x.free(6), 0);
        DUE.is("just CAP words wait", x.count(4), 8);
        DUE.is("none went", x.count(9), 0);
        DUE.is("free(10)", x.free(10), 0);
        DUE.is("one went", x.count(9), 1);
        DUE.is("check(2)", x.check(2), 3);
        DUE.is("waiting(0)", x.waiting(0), 6);
        DUE.is("waiting(1)", x.waiting(1), 10);
        DUE.is("free(6) again", x.free(6), 4);
        DUE.is("free(2) again, it went", x.free(2), 5);
        DUE.is("FREED", x.count(8), 3);
        DUE.is("LIVE", x.count(1), 0);
    }

    private static void freeOfWrongAddresses() {
        GuardHeap x = new GuardHeap(200, 2, 8);
        x.alloc(3);
        x.alloc(4);
        for (int p : new int[] {0, 1, 2, 4, 5, 6, 8, 9, 12, 200, -1, Integer.MAX_VALUE, Integer.MIN_VALUE}) {
            DUE.is("free(" + p + ")", x.free(p), 5);
            DUE.is("the FAULT's KIND", x.fault(0, 0), 5);
            DUE.is("the FAULT's address", x.fault(0, 1), p);
        }
        DUE.is("none FREED", x.count(8), 0);
        DUE.is("FAULTS", x.count(13), 13);
    }

    private static void freeBeyondCap() {
        GuardHeap x = new GuardHeap(400, 1, 16);
        x.alloc(2);
        x.alloc(2);
        x.alloc(30);
        x.alloc(2);
        x.free(2);
        x.free(6);
        DUE.is("both wait", x.count(3), 2);
        DUE.is("free(10), 32 words", x.free(10), 0);
        DUE.is("none waits", x.count(3), 0);
        DUE.is("three went", x.count(9), 3);
        DUE.is("FREE CHUNKS", x.count(5), 3);
        GuardHeap noCap = new GuardHeap(400, 1, 0);
        noCap.alloc(2);
        noCap.free(2);
        DUE.is("CAP 0: none waits", noCap.count(3), 0);
        DUE.is("CAP 0: free(2) again", noCap.free(2), 5);
    }

    private static void resizeMovesWords() {
        GuardHeap x = new GuardHeap(300, 2, 3000);
        x.alloc(3);
        for (int i = 0; i < 3; i++) {
            x.store(3 + i, 70 + i);
        }
        DUE.is("resize(3, 5)", x.resize(3, 5), 11);
        for (int i = 0; i < 5; i++) {
            DUE.is("greater: word " + i, x.load(11 + i), i < 3 ? 70 + i : 0);
        }
        DUE.is("the old one waits", x.check(3), 1);
        DUE.is("resize(11, 2)", x.resize(11, 2), 23);
        DUE.is("smaller: word 0", x.load(23), 70);
        DUE.is("smaller: word 1", x.load(24), 71);
        DUE.is("smaller: no word 2", x.check(25), 2);
        DUE.is("same: resize(23, 2)", x.resize(23, 2), 31);
        DUE.is("same: word 1", x.load(32), 71);
        DUE.is("SERIAL", x.describe(31, 3), 3);
        DUE.is("GIVEN", x.count(7), 4);
        DUE.is("FREED", x.count(8), 3);
        DUE.is("their words", x.count(2), 2);
    }

    private static void resizeLeavesTheZoneBehind() {
        GuardHeap x = new GuardHeap(100, 1, 0);
        x.alloc(6);
        for (int a = 2; a < 8; a++) {
            x.store(a, 9);
        }
        x.free(2);
        DUE.is("alloc(3) in the same chunk", x.alloc(3), 2);
        x.store(4, 7);
        DUE.is("resize(2, 6)", x.resize(2, 6), 10);
        int[] due = {0, 0, 7, 0, 0, 0};
        for (int i = 0; i < 6; i++) {
            DUE.is("word " + i, x.load(10 + i), due[i]);
        }
        DUE.is("resize(10, 1)", x.resize(10, 1), 2);
        DUE.is("sizeOf(2)", x.sizeOf(2), 1);
    }

    private static void resizeKeepsOldUntilTheNewIsGiven() {
        GuardHeap x = new GuardHeap(64, 1, 3000);
        x.alloc(30);
        DUE.is("resize(2, 20)", x.resize(2, 20), 34);
        DUE.is("resize(34, 40)", x.resize(34, 40), 0);
        DUE.is("p stays", x.sizeOf(34), 20);
        DUE.is("the other one went", x.count(9), 1);
        DUE.is("resize(34, 30)", x.resize(34, 30), 2);
        DUE.is("CAP 3000: the old one waits", x.waiting(0), 34);
    }

    private static void resizeInVain() {
        GuardHeap x = new GuardHeap(64, 1, 0);
        x.alloc(5);
        x.store(2, 44);
        DUE.is("resize(2, most)", x.resize(2, Integer.MAX_VALUE), 0);
        DUE.is("load(2)", x.load(2), 44);
        DUE.is("GIVEN", x.count(7), 1);
        DUE.is("FREED", x.count(8), 0);
        DUE.is("FAULTS", x.count(13), 0);
    }

    private static void resizeWrong() {
        GuardHeap x = new GuardHeap(200, 1, 100);
        x.alloc(4);
        x.alloc(4);
        x.free(2);
        DUE.is("resize(10, 0)", x.resize(10, 0), 0);
        DUE.is("resize(10, least)", x.resize(10, Integer.MIN_VALUE), 0);
        DUE.is("resize(2, 0), no FAULT either", x.resize(2, 0), 0);
        DUE.is("resize(77, -1), no FAULT either", x.resize(77, -1), 0);
        DUE.is("no FAULTS", x.count(13), 0);
        DUE.is("resize(2, 4)", x.resize(2, 4), -4);
        DUE.is("its KIND", x.fault(0, 0), 4);
        DUE.is("its address", x.fault(0, 1), 2);
        for (int p : WRONG_STARTS) {
            DUE.is("resize(" + p + ", most)", x.resize(p, Integer.MAX_VALUE), -5);
            DUE.is("its KIND", x.fault(0, 0), 5);
            DUE.is("its address", x.fault(0, 1), p);
        }
        DUE.is("a wrong address gives nothing", x.count(7), 2);
        DUE.is("and lets nothing go", x.count(3), 1);
    }
}
