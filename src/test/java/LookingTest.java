/** Promises 9, 10, 15, 18 and 19: sizeOf, describe, count, waiting, fault. */
public final class LookingTest {
    private static final Due DUE = new Due("LookingTest");

    public static void main(String[] args) {
        sizes();
        describeLiveAndWaiting();
        describeWrong();
        counts();
        highestTopStays();
        waitingInTheirOrder();
        faultsNewestFirst();
        thirtyTwoFaultsAreKept();
        faultWrong();
        DUE.end();
    }

    private static void sizes() {
        GuardHeap x = new GuardHeap(200, 2, 100);
        x.alloc(5);
        x.alloc(1);
        DUE.is("sizeOf(3)", x.sizeOf(3), 5);
        DUE.is("sizeOf(15)", x.sizeOf(15), 1);
        for (int p : new int[] {0, 1, 2, 4, 7, 8, 16, 100, 200, -3, Integer.MAX_VALUE, Integer.MIN_VALUE}) {
            DUE.is("sizeOf(" + p + ")", x.sizeOf(p), GuardHeap.NONE);
        }
        x.free(3);
        DUE.is("sizeOf(3), it waits", x.sizeOf(3), GuardHeap.NONE);
        DUE.is("no FAULTS", x.count(13), 0);
    }

    private static void describeAll(GuardHeap x, int a, int... due) {
        for (int what = 0; what < due.length; what++) {
            DUE.is("describe(" + a + ", " + what + ")", x.describe(a, what), due[what]);
        }
    }

    private static void describeLiveAndWaiting() {
        GuardHeap x = new GuardHeap(200, 3, 100);
        x.alloc(1);
        x.alloc(6);
        describeAll(x, 9, 12, 6, 12, 1, 1, -3);
        describeAll(x, 12, 12, 6, 12, 1, 1, 0);
        describeAll(x, 20, 12, 6, 12, 1, 1, 8);
        describeAll(x, 8, 4, 1, 8, 0, 1, 4);
        x.free(12);
        describeAll(x, 20, 12, 6, 12, 1, 0, 8);
        describeAll(x, 1, 4, 1, 8, 0, 1, -3);
        // a split leaves the block the chunk that is NEEDED, not the one that was there
        x.alloc(3000);
        DUE.is("alloc(2)", x.alloc(2), 12);
        describeAll(x, 12, 12, 2, 8, 2, 1, 0);
    }

    private static void describeWrong() {
        GuardHeap x = new GuardHeap(200, 3, 0);
        x.alloc(1);
        x.alloc(1);
        x.free(4);
        for (int a : new int[] {0, -1, 1, 8, 17, 199, 200, Integer.MAX_VALUE, Integer.MIN_VALUE}) {
            for (int what = 0; what < 6; what++) {
                int w = what;
                DUE.throwsNoSuchElement("describe(" + a + ", " + w + ")", () -> x.describe(a, w));
            }
            DUE.is("describe(" + a + ", 6)", x.describe(a, 6), GuardHeap.NONE);
            DUE.is("describe(" + a + ", -1)", x.describe(a, -1), GuardHeap.NONE);
        }
        DUE.is("describe(12, 6)", x.describe(12, 6), GuardHeap.NONE);
        DUE.is("describe(12, most)", x.describe(12, Integer.MAX_VALUE), GuardHeap.NONE);
        DUE.is("describe(12, least)", x.describe(12, Integer.MIN_VALUE), GuardHeap.NONE);
        DUE.is("no FAULTS", x.count(13), 0);
    }

    private static void allCounts(GuardHeap x, int... due) {
        for (int what = 0; what < due.length; what++) {
            DUE.is("count(" + what + ")", x.count(what), due[what]);
        }
    }

    private static void counts() {
        GuardHeap x = new GuardHeap(500, 1, 80);
        x.alloc(70);
        x.alloc(70);
        x.alloc(70);
        x.alloc(5);
        allCounts(x, 225, 4, 215, 0, 0, 0, 0, 4, 0, 0, 0, 0, 225, 0, 500, 1, 80);
        x.free(2);
        allCounts(x, 225, 3, 145, 1, 72, 0, 0, 4, 1, 0, 0, 0, 225, 0, 500, 1, 80);
        x.free(146);
        allCounts(x, 225, 2, 75, 1, 72, 1, 72, 4, 2, 1, 0, 0, 225, 0, 500, 1, 80);
        // the middle one pushes the third out of the queue, and a fifth one pushes the middle one
        x.free(74);
        allCounts(x, 225, 1, 5, 1, 72, 2, 144, 4, 3, 2, 0, 0, 225, 0, 500, 1, 80);
        x.alloc(2);
        allCounts(x, 225, 2, 7, 1, 72, 2, 140, 5, 3, 2, 1, 0, 225, 0, 500, 1, 80);
        x.free(999);
        x.alloc(3000);
        allCounts(x, 225, 2, 7, 0, 0, 1, 212, 5, 3, 3, 1, 2, 225, 1, 500, 1, 80);
        for (int what : new int[] {17, 18, -1, Integer.MAX_VALUE, Integer.MIN_VALUE}) {
            DUE.is("count(" + what + ")", x.count(what), GuardHeap.NONE);
        }
    }

    private static void highestTopStays() {
        GuardHeap x = new GuardHeap(500, 1, 0);
        x.alloc(10);
        x.alloc(100);
        x.free(14);
        DUE.is("TOP", x.count(0), 13);
        DUE.is("highest TOP", x.count(12), 117);
        DUE.is("no FREE CHUNKS", x.count(5), 0);
        x.alloc(50);
        DUE.is("TOP", x.count(0), 65);
        DUE.is("highest TOP", x.count(12), 117);
        x.alloc(60);
        DUE.is("highest TOP", x.count(12), 129);
    }

    private static void waitingInTheirOrder() {
        GuardHeap x = new GuardHeap(200, 1, 12);
        for (int i = 0; i < 5; i++) {
            x.alloc(2);
        }
        x.free(10);
        x.free(2);
        x.free(18);
        int[] due = {10, 2, 18};
        for (int k = 0; k < 3; k++) {
            DUE.is("waiting(" + k + ")", x.waiting(k), due[k]);
        }
        for (int k : new int[] {3, 4, -1, Integer.MAX_VALUE, Integer.MIN_VALUE}) {
            DUE.is("waiting(" + k + ")", x.waiting(k), GuardHeap.NONE);
        }
        x.free(6);
        DUE.is("one went: waiting(0)", x.waiting(0), 2);
        DUE.is("one went: waiting(2)", x.waiting(2), 6);
        DUE.is("one went: waiting(3)", x.waiting(3), GuardHeap.NONE);
        x.alloc(3000);
        DUE.is("all went: waiting(0)", x.waiting(0), GuardHeap.NONE);
        x.free(14);
        DUE.is("one again: waiting(0)", x.waiting(0), 14);
        DUE.is("one again: waiting(1)", x.waiting(1), GuardHeap.NONE);
    }

    private static void faultsNewestFirst() {
        GuardHeap x = new GuardHeap(64, 1, 100);
        x.alloc(2);
        x.alloc(2);
        x.free(6);
        x.load(1);
        x.store(6, 3);
        x.free(6);
        x.resize(-70, 2);
        x.copy(2, 900, 1);
        int[] kinds = {3, 5, 4, 1, 2};
        int[] addresses = {900, -70, 6, 6, 1};
        for (int k = 0; k < 5; k++) {
            DUE.is("fault(" + k + ", 0)", x.fault(k, 0), kinds[k]);
            DUE.is("fault(" + k + ", 1)", x.fault(k, 1), addresses[k]);
        }
        DUE.throwsNoSuchElement("fault(5, 0)", () -> x.fault(5, 0));
        DUE.throwsNoSuchElement("fault(5, 1)", () -> x.fault(5, 1));
    }

    private static void thirtyTwoFaultsAreKept() {
        GuardHeap x = new GuardHeap(64, 1, 100);
        for (int i = 1; i <= 100; i++) {
            x.load(-i);
            int kept = Math.min(i, 32);
            DUE.is("the latest", x.fault(0, 1), -i);
            DUE.is("the oldest kept", x.fault(kept - 1, 1), -i + kept - 1);
            DUE.throwsNoSuchElement("fault(" + kept + ", 1)", () -> x.fault(kept, 1));
        }
        DUE.is("FAULTS in all", x.count(13), 100);
    }

    private static void faultWrong() {
        GuardHeap x = new GuardHeap(64, 1, 100);
        DUE.throwsNoSuchElement("no FAULT yet", () -> x.fault(0, 0));
        x.load(0);
        for (int k : new int[] {1, 31, 32, -1, Integer.MAX_VALUE, Integer.MIN_VALUE}) {
            DUE.throwsNoSuchElement("fault(" + k + ", 0)", () -> x.fault(k, 0));
        }
        for (int what : new int[] {2, -1, Integer.MAX_VALUE, Integer.MIN_VALUE}) {
            DUE.throwsNoSuchElement("fault(0, " + what + ")", () -> x.fault(0, what));
        }
        DUE.is("fault(0, 0)", x.fault(0, 0), 3);
        DUE.is("fault(0, 1)", x.fault(0, 1), 0);
    }
}
