/** Promise 9, sizeOf: its edges. */
public final class Promise09SizeOfTest {
    private static final Due DUE = new Due("Promise 9, sizeOf");

    public static void main(String[] args) {
        leastAndMost();
        noStart();
        ofABlockThatWaits();
        ofABlockThatWent();
        keepsNoFault();
        DUE.end();
    }

    private static void leastAndMost() {
        DUE.sentence("How many words the LIVE BLOCK with START p has.");
        for (int n = 1; n <= 6; n++) {
            GuardHeap x = new GuardHeap(100, 2, 0);
            x.alloc(n);
            DUE.is("of " + n + " words: sizeOf(3)", x.sizeOf(3), n);
        }
        GuardHeap x = new GuardHeap(3000, 1, 0);
        x.alloc(2994);
        DUE.is("the largest: sizeOf(2)", x.sizeOf(2), 2994);
    }

    private static void noStart() {
        DUE.sentence("NONE: there is none.");
        GuardHeap x = Scene.busy();
        for (int p : new int[] {13, 15, 23, 24, 25, 26, 29, 31, 35, 36, 37, 39, 41, 99, 100, 0, 1, -1, -14}) {
            DUE.is("sizeOf(" + p + ")", x.sizeOf(p), GuardHeap.NONE);
        }
        for (int p : Due.FAR) {
            DUE.is("sizeOf(" + p + ")", x.sizeOf(p), GuardHeap.NONE);
        }
    }

    private static void ofABlockThatWaits() {
        DUE.sentence("NONE: there is none.");
        DUE.is("sizeOf(6)", Scene.busy().sizeOf(6), GuardHeap.NONE);
        DUE.is("sizeOf(2)", Scene.busy().sizeOf(2), GuardHeap.NONE);
    }

    private static void ofABlockThatWent() {
        DUE.sentence("NONE: there is none.");
        GuardHeap x = new GuardHeap(100, 1, 0);
        x.alloc(2);
        x.free(2);
        DUE.is("sizeOf(2)", x.sizeOf(2), GuardHeap.NONE);
        x.alloc(1);
        DUE.is("LIVE again: sizeOf(2)", x.sizeOf(2), 1);
    }

    private static void keepsNoFault() {
        DUE.sentence("NONE: there is none.");
        for (int p : new int[] {14, 15, 13, 6, 26, 0, -1, 100, Integer.MAX_VALUE}) {
            Scene.unchanged(DUE, "sizeOf(" + p + ")", x -> x.sizeOf(p));
        }
    }
}
