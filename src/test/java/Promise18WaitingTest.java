/** Promise 18, waiting: its edges. */
public final class Promise18WaitingTest {
    private static final Due DUE = new Due("Promise 18, waiting");

    public static void main(String[] args) {
        noneWaits();
        longestFirst();
        noSuchNumber();
        theFirstGoes();
        emptyAndFilledAgain();
        manyWait();
        changesNothing();
        DUE.end();
    }

    private static void queue(GuardHeap x, int... starts) {
        for (int k = 0; k < starts.length; k++) {
            DUE.is("waiting(" + k + ")", x.waiting(k), starts[k]);
        }
        DUE.is("waiting(" + starts.length + ")", x.waiting(starts.length), GuardHeap.NONE);
        DUE.is("waiting(-1)", x.waiting(-1), GuardHeap.NONE);
    }

    private static GuardHeap pairs(int many, int cap) {
        GuardHeap x = new GuardHeap(3000, 1, cap);
        for (int i = 0; i < many; i++) {
            x.alloc(2);
        }
        return x;
    }

    private static void noneWaits() {
        DUE.sentence("NONE if there is none such.");
        queue(new GuardHeap(64, 1, 100));
        queue(pairs(2, 100));
        GuardHeap x = pairs(2, 3);
        x.free(2);
        queue(x);
    }

    private static void longestFirst() {
        DUE.sentence("The START of the k-th BLOCK that waits, the one that waits longest first.");
        GuardHeap x = pairs(4, 100);
        x.free(14);
        queue(x, 14);
        x.free(2);
        queue(x, 14, 2);
        x.free(10);
        x.free(6);
        queue(x, 14, 2, 10, 6);
        x.free(14);
        queue(x, 14, 2, 10, 6);
    }

    private static void noSuchNumber() {
        DUE.sentence("NONE if there is none such.");
        for (int k : new int[] {2, 3, 512, 3000, -1, -2, Integer.MIN_VALUE, Integer.MAX_VALUE}) {
            DUE.is("waiting(" + k + ")", Scene.busy().waiting(k), GuardHeap.NONE);
        }
        queue(Scene.busy(), 6, 2);
    }

    private static void theFirstGoes() {
        DUE.sentence("The START of the k-th BLOCK that waits, the one that waits longest first.");
        GuardHeap x = pairs(4, 8);
        x.free(6);
        x.free(2);
        x.free(14);
        queue(x, 2, 14);
        x.free(10);
        queue(x, 14, 10);
    }

    private static void emptyAndFilledAgain() {
        DUE.sentence("The START of the k-th BLOCK that waits, the one that waits longest first.");
        GuardHeap x = pairs(4, 100);
        x.free(2);
        x.free(6);
        x.alloc(3000);
        queue(x);
        x.free(10);
        queue(x, 10);
        x.free(14);
        queue(x, 10, 14);
    }

    private static void manyWait() {
        DUE.sentence("The START of the k-th BLOCK that waits, the one that waits longest first.");
        GuardHeap x = pairs(160, 3000);
        for (int i = 159; i >= 0; i--) {
            x.free(2 + 4 * i);
        }
        for (int k = 0; k < 160; k++) {
            DUE.is("waiting(" + k + ")", x.waiting(k), 2 + 4 * (159 - k));
        }
        DUE.is("waiting(160)", x.waiting(160), GuardHeap.NONE);
    }

    private static void changesNothing() {
        DUE.sentence("NONE if there is none such.");
        for (int k : new int[] {0, 1, 2, -1, Integer.MIN_VALUE, Integer.MAX_VALUE}) {
            Scene.unchanged(DUE, "waiting(" + k + ")", x -> x.waiting(k));
        }
    }
}
