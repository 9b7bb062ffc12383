/** Promise 4, resize: its edges. */
public final class Promise04ResizeTest {
    private static final Due DUE = new Due("Promise 4, resize");
    private static final int[] STARTS_NOWHERE = {13, 15, 23, 24, 31, 1, 3, 7, 25, 26, 41, 99, 100, 0, -1, -14};

    public static void main(String[] args) {
        belowOne();
        belowOneOfNoBlock();
        noRoom();
        noRoomByFar();
        noRoomEvenInItsOwnChunk();
        noRoomEmptiesTheQueue();
        ofABlockThatWaits();
        ofAnotherAddress();
        noSuchBlockLetsNoneGo();
        oneWordLessAndMore();
        toOneWordAndBack();
        notTheZonesWords();
        isFreedBehindTheOthers();
        isFreedAndGoesAtOnce();
        isGivenAsLongestGoes();
        hasANewSerial();
        DUE.end();
    }

    private static void belowOne() {
        DUE.sentence("0: n is below 1 (nothing changes, no FAULT)");
        for (int n : new int[] {0, -1, -10, Integer.MIN_VALUE}) {
            DUE.is("resize(14, " + n + ")", Scene.busy().resize(14, n), 0);
            Scene.unchanged(DUE, "resize(14, " + n + ")", x -> x.resize(14, n));
        }
    }

    private static void belowOneOfNoBlock() {
        DUE.sentence("0: n is below 1 (nothing changes, no FAULT)");
        for (int p : new int[] {6, 2, 26, 15, 0, -1, 100, Integer.MAX_VALUE, Integer.MIN_VALUE}) {
            for (int n : new int[] {0, -1, Integer.MIN_VALUE}) {
                String call = "resize(" + p + ", " + n + ")";
                DUE.is(call, Scene.busy().resize(p, n), 0);
                Scene.unchanged(DUE, call, x -> x.resize(p, n));
            }
        }
    }

    private static GuardHeap nineOfFiftyFive() {
        GuardHeap x = new GuardHeap(64, 1, 0);
        x.alloc(5);
        x.store(2, 44);
        x.store(6, 48);
        return x;
    }

    private static void noRoom() {
        DUE.sentence("or there is none (p stays LIVE)");
        GuardHeap x = nineOfFiftyFive();
        DUE.is("56 words of 55", x.resize(2, 51), 0);
        Scene.unchanged(DUE, "resize(2, 51)", Promise04ResizeTest::nineOfFiftyFive, y -> y.resize(2, 51));
        DUE.is("p is LIVE", x.sizeOf(2), 5);
        DUE.is("its last word", x.load(6), 48);
        DUE.is("52 words of 55", x.resize(2, 50), 10);
        DUE.is("its fifth word", x.load(14), 48);
    }

    private static void noRoomByFar() {
        DUE.sentence("or there is none (p stays LIVE)");
        for (int less = 0; less <= 24; less++) {
            int n = Integer.MAX_VALUE - less;
            GuardHeap x = nineOfFiftyFive();
            DUE.is("resize(2, " + n + ")", x.resize(2, n), 0);
            DUE.is("p is LIVE", x.sizeOf(2), 5);
            DUE.is("GIVEN", x.count(7), 1);
            DUE.is("no FAULT", x.count(13), 0);
        }
    }

    private static void noRoomEvenInItsOwnChunk() {
        DUE.sentence("or there is none (p stays LIVE)");
        GuardHeap x = new GuardHeap(64, 1, 0);
        x.alloc(42);
        x.store(43, 7);
        for (int n : new int[] {42, 41, 20, 15}) {
            DUE.is("resize(2, " + n + ")", x.resize(2, n), 0);
        }
        DUE.is("p is LIVE", x.sizeOf(2), 42);
        DUE.is("FREED", x.count(8), 0);
        DUE.is("16 words of 19", x.resize(2, 14), 46);
    }

    private static void noRoomEmptiesTheQueue() {
        DUE.sentence("if the QUEUE is empty, there is none");
        GuardHeap x = Scene.busy();
        DUE.is("resize(14, 60)", x.resize(14, 60), 0);
        DUE.is("none waits", x.count(3), 0);
        DUE.is("three went", x.count(9), 3);
        DUE.is("p is LIVE", x.check(14), 0);
        DUE.is("its last word", x.load(23), 777);
        DUE.is("FAULTS", x.count(13), 2);
        Scene.chain(DUE, x, 4, 1, 25);
        Scene.chain(DUE, x, 8, 5);
    }

    private static void ofABlockThatWaits() {
        DUE.sentence("-4, -5: no such BLOCK: the FAULT's KIND.");
        for (int p : new int[] {6, 2}) {
            for (int n : new int[] {1, 2, 3000, Integer.MAX_VALUE}) {
                String call = "resize(" + p + ", " + n + ")";
                DUE.is(call, Scene.busy().resize(p, n), -4);
                Scene.onlyFault(DUE, call, 4, p, x -> x.resize(p, n));
            }
        }
    }

    private static void ofAnotherAddress() {
        DUE.sentence("-4, -5: no such BLOCK: the FAULT's KIND.");
        for (int p : STARTS_NOWHERE) {
            DUE.is("resize(" + p + ", 1)", Scene.busy().resize(p, 1), -5);
            Scene.onlyFault(DUE, "resize(" + p + ", 1)", 5, p, x -> x.resize(p, 1));
        }
        for (int p : Due.FAR) {
            DUE.is("resize(" + p + ", 2)", Scene.busy().resize(p, 2), -5);
            Scene.onlyFault(DUE, "resize(" + p + ", 2)", 5, p, x -> x.resize(p, 2));
        }
    }

    private static void noSuchBlockLetsNoneGo() {
        DUE.sentence("-4, -5: no such BLOCK: the FAULT's KIND.");
        for (int n : new int[] {60, 3000, Integer.MAX_VALUE}) {
            DUE.is("resize(26, " + n + ")", Scene.busy().resize(26, n), -5);
            Scene.onlyFault(DUE, "resize(26, " + n + ")", 5, 26, x -> x.resize(26, n));
        }
    }

    private static void oneWordLessAndMore() {
        DUE.sentence("the words of the LIVE BLOCK with START p come into it, as many as both have");
        for (int n = 4; n <= 8; n++) {
            GuardHeap x = new GuardHeap(100, 1, 0);
            x.alloc(6);
            for (int i = 0; i < 6; i++) {
                x.store(2 + i, 90 + i);
            }
            DUE.is("resize(2, " + n + ")", x.resize(2, n), 10);
            DUE.is("sizeOf(10)", x.sizeOf(10), n);
            for (int i = 0; i < n; i++) {
                DUE.is("of " + n + ", word " + i, x.load(10 + i), i < 6 ? 90 + i : 0);
            }
            DUE.is("behind them", x.check(10 + n), 2);
        }
    }

    private static void toOneWordAndBack() {
        DUE.sentence("the words of the LIVE BLOCK with START p come into it, as many as both have");
        GuardHeap x = new GuardHeap(100, 1, 3000);
        x.alloc(2);
        x.store(2, -8);
        x.store(3, -9);
        DUE.is("resize(2, 1)", x.resize(2, 1), 6);
        DUE.is("resize(6, 2)", x.resize(6, 2), 10);
        DUE.is("word 0", x.load(10), -8);
        DUE.is("word 1", x.load(11), 0);
        DUE.is("LIVE words", x.count(2), 2);
    }

    private static void notTheZonesWords() {
        DUE.sentence("the words of the LIVE BLOCK with START p come into it, as many as both have");
        GuardHeap x = new GuardHeap(100, 1, 0);
        x.alloc(6);
        for (int a = 2; a < 8; a++) {
            x.store(a, 9);
        }
        x.free(2);
        x.alloc(3);
        x.store(4, 7);
        DUE.is("resize(2, 6)", x.resize(2, 6), 10);
        DUE.is("word 2", x.load(12), 7);
        DUE.is("word 3", x.load(13), 0);
        DUE.is("word 5", x.load(15), 0);
    }

    private static void isFreedBehindTheOthers() {
        DUE.sentence("and that one is FREED: the new START");
        GuardHeap x = new GuardHeap(100, 1, 12);
        x.alloc(2);
        x.alloc(2);
        x.alloc(2);
        x.free(6);
        x.free(10);
        DUE.is("resize(2, 2)", x.resize(2, 2), 14);
        DUE.is("just CAP: none went", x.count(9), 0);
        DUE.is("waiting(2)", x.waiting(2), 2);
        DUE.is("resize(14, 3)", x.resize(14, 3), 18);
        DUE.is("more than CAP: one went", x.count(9), 1);
        DUE.is("waiting(0)", x.waiting(0), 10);
        DUE.is("waiting(2)", x.waiting(2), 14);
        DUE.is("FREED", x.count(8), 4);
    }

    private static void isFreedAndGoesAtOnce() {
        DUE.sentence("and that one is FREED: the new START");
        GuardHeap x = new GuardHeap(100, 1, 0);
        x.alloc(2);
        x.store(2, 3);
        DUE.is("resize(2, 2)", x.resize(2, 2), 6);
        DUE.is("check(2)", x.check(2), 3);
        DUE.is("resize(2, 2) again", x.resize(2, 2), -5);
        DUE.is("resize(6, 1)", x.resize(6, 1), 2);
        DUE.is("its word", x.load(2), 3);
    }

    private static void isGivenAsLongestGoes() {
        DUE.sentence("A BLOCK of n words is GIVEN");
        GuardHeap x = new GuardHeap(64, 1, 3000);
        x.alloc(18);
        x.alloc(18);
        x.alloc(18);
        x.store(42, 5);
        x.free(22);
        x.free(2);
        DUE.is("resize(42, 18)", x.resize(42, 18), 22);
        DUE.is("one went", x.count(9), 1);
        DUE.is("its first word", x.load(22), 5);
        DUE.is("waiting(0)", x.waiting(0), 2);
        DUE.is("waiting(1)", x.waiting(1), 42);
    }

    private static void hasANewSerial() {
        DUE.sentence("A BLOCK of n words is GIVEN");
        GuardHeap x = new GuardHeap(100, 1, 0);
        x.alloc(2);
        x.resize(2, 0);
        x.resize(2, 3000);
        x.resize(3, 2);
        DUE.is("resize(2, 2)", x.resize(2, 2), 6);
        DUE.is("its SERIAL", x.describe(6, 3), 1);
        DUE.is("GIVEN", x.count(7), 2);
    }
}
