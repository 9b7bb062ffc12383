/** Promise 19, fault: its edges, with those of FAULT. */
public final class Promise19FaultTest {
    private static final Due DUE = new Due("Promise 19, fault");
    private static final int[] NO_WHAT = {-1, 2, 3, Integer.MIN_VALUE, Integer.MAX_VALUE};

    public static void main(String[] args) {
        noFaultYet();
        oneFault();
        anotherWhat();
        just32AreKept();
        the33rdPushesTheFirstOut();
        aroundAgain();
        everyKind();
        everyKindOfLoadStoreAndCopy();
        callsThatAreDoneKeepNone();
        addressesAreToldWhole();
        changesNothing();
        DUE.end();
    }

    private static void none(GuardHeap x, int k) {
        for (int what = -1; what <= 2; what++) {
            int w = what;
            DUE.throwsNoSuchElement("fault(" + k + ", " + w + ")", () -> x.fault(k, w));
        }
    }

    private static void kept(GuardHeap x, int k, int kind, int a) {
        DUE.is("fault(" + k + ", 0)", x.fault(k, 0), kind);
        DUE.is("fault(" + k + ", 1)", x.fault(k, 1), a);
    }

    private static void noFaultYet() {
        DUE.sentence("NoSuchElementException: there is none such, or another what.");
        GuardHeap x = new GuardHeap(64, 1, 0);
        for (int k : new int[] {0, 1, 31, 32, 33, -1, -32, Integer.MIN_VALUE, Integer.MAX_VALUE}) {
            none(x, k);
        }
    }

    private static void oneFault() {
        DUE.sentence("NoSuchElementException: there is none such, or another what.");
        GuardHeap x = new GuardHeap(64, 1, 0);
        x.load(-7);
        kept(x, 0, 3, -7);
        for (int k : new int[] {1, 2, 31, 32, 33, -1, -31, -32, Integer.MIN_VALUE, Integer.MAX_VALUE}) {
            none(x, k);
        }
    }

    private static void anotherWhat() {
        DUE.sentence("NoSuchElementException: there is none such, or another what.");
        GuardHeap x = Scene.busy();
        for (int what : NO_WHAT) {
            DUE.throwsNoSuchElement("fault(0, " + what + ")", () -> x.fault(0, what));
            DUE.throwsNoSuchElement("fault(1, " + what + ")", () -> x.fault(1, what));
            DUE.throwsNoSuchElement("fault(2, " + what + ")", () -> x.fault(2, what));
        }
        kept(x, 0, 5, 26);
        kept(x, 1, 3, 0);
    }

    private static GuardHeap faults(int many) {
        GuardHeap x = new GuardHeap(64, 1, 0);
        for (int i = 1; i <= many; i++) {
            if (i % 2 == 0) {
                x.free(-i);
            } else {
                x.load(-i);
            }
        }
        return x;
    }

    /** Of so many FAULTS the latest 32 are told, and no more. */
    private static void latest(int many) {
        GuardHeap x = faults(many);
        int last = Math.min(many, 32);
        for (int k = 0; k < last; k++) {
            kept(x, k, (many - k) % 2 == 0 ? 5 : 3, k - many);
        }
        none(x, last);
        none(x, last + 1);
        DUE.is("FAULTS in all", x.count(13), many);
    }

    private static void just32AreKept() {
        DUE.sentence("Of the FAULT k ahead of the latest (0 the latest; 32 are kept)");
        latest(31);
        latest(32);
    }

    private static void the33rdPushesTheFirstOut() {
        DUE.sentence("Of the FAULT k ahead of the latest (0 the latest; 32 are kept)");
        latest(33);
        latest(34);
    }

    private static void aroundAgain() {
        DUE.sentence("Of the FAULT k ahead of the latest (0 the latest; 32 are kept)");
        for (int many : new int[] {63, 64, 65, 66, 127, 128, 129, 256, 257, 400}) {
            latest(many);
        }
    }

    private static void everyKind() {
        DUE.sentence("4: free, resize of the START of a BLOCK that waits; 5: free, resize of another address");
        GuardHeap x = Scene.busy();
        x.free(6);
        kept(x, 0, 4, 6);
        x.resize(2, 1);
        kept(x, 0, 4, 2);
        x.free(7);
        kept(x, 0, 5, 7);
        x.resize(13, 1);
        kept(x, 0, 5, 13);
        x.resize(15, 1);
        kept(x, 0, 5, 15);
        DUE.is("one each", x.count(13), 7);
    }

    private static void everyKindOfLoadStoreAndCopy() {
        DUE.sentence("1 to 3: the SORT (of load, store, copy)");
        // a waiting word, both sides' zones, a FREE word, TOP
        int[] addresses = {6, 11, 5, 12, 13, 24, 26, 41};
        int[] kinds = {1, 1, 2, 2, 2, 2, 3, 3};
        GuardHeap x = Scene.busy();
        for (int i = 0; i < addresses.length; i++) {
            int a = addresses[i];
            x.load(a);
            kept(x, 0, kinds[i], a);
            x.store(a, 4);
            kept(x, 0, kinds[i], a);
            x.copy(a, 14, 1);
            kept(x, 0, kinds[i], a);
            x.copy(14, a, 1);
            kept(x, 0, kinds[i], a);
        }
        DUE.is("one each", x.count(13), 34);
    }

    private static void callsThatAreDoneKeepNone() {
        DUE.sentence("A FAULT is kept for each load(), store(), free(), resize(), copy() that is not done for its address");
        GuardHeap x = new GuardHeap(64, 1, 0);
        x.alloc(2);
        x.store(2, 1);
        x.load(3);
        x.copy(2, 3, 1);
        x.copy(2, 3, -1);
        x.copy(0, 0, 3001);
        x.copy(0, 0, 0);
        x.resize(0, 0);
        x.resize(2, 3000);
        x.resize(2, 2);
        x.free(6);
        x.alloc(0);
        x.alloc(3000);
        x.check(0);
        x.sizeOf(0);
        x.setRoot(99, 0);
        none(x, 0);
        DUE.is("FAULTS", x.count(13), 0);
    }

    private static void addressesAreToldWhole() {
        DUE.sentence("what 0: its KIND, 1: its address");
        for (int a : Due.FAR) {
            GuardHeap x = Scene.busy();
            x.load(a);
            kept(x, 0, 3, a);
            x.store(a, 1);
            kept(x, 0, 3, a);
            x.free(a);
            kept(x, 0, 5, a);
            x.resize(a, 1);
            kept(x, 0, 5, a);
            x.copy(14, a, 10);
            kept(x, 0, 3, a);
        }
    }

    private static void changesNothing() {
        DUE.sentence("NoSuchElementException: there is none such, or another what.");
        Scene.unchanged(DUE, "fault", x -> {
            x.fault(0, 0);
            x.fault(1, 1);
            none(x, 2);
            none(x, -1);
        });
    }
}
