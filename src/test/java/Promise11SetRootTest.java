/** Promise 11, setRoot: its edges. */
public final class Promise11SetRootTest {
    private static final Due DUE = new Due("Promise 11, setRoot");

    public static void main(String[] args) {
        noSuchRoot();
        everyRoot();
        rootsAreZeroAtFirst();
        anyNumber();
        aRootLeadsByEveryWord();
        aRootStays();
        DUE.end();
    }

    private static void noSuchRoot() {
        DUE.sentence("false: there is no such one");
        for (int r : new int[] {-1, 16, 17, Integer.MIN_VALUE, Integer.MAX_VALUE}) {
            for (int a : new int[] {38, 0}) {
                DUE.holds("setRoot(" + r + ", " + a + ") is false", !Scene.busy().setRoot(r, a));
                Scene.unchanged(DUE, "setRoot(" + r + ", " + a + ")", x -> x.setRoot(r, a));
            }
        }
    }

    private static void everyRoot() {
        DUE.sentence("ROOT r becomes a number");
        GuardHeap x = Scene.busy();
        for (int r = 0; r < 16; r++) {
            int kept = r == 3 ? 23 : 0;
            DUE.holds("setRoot(" + r + ", 38)", x.setRoot(r, 38));
            DUE.is("ROOT " + r + ": leakScan()", x.leakScan(), r == 3 ? 2 : 0);
            DUE.holds("setRoot(" + r + ", " + kept + ")", x.setRoot(r, kept));
            DUE.is("ROOT " + r + " as it was: leakScan()", x.leakScan(), 1);
        }
    }

    private static void rootsAreZeroAtFirst() {
        DUE.sentence("ROOTS 0 to 15 are numbers, at first 0.");
        GuardHeap x = new GuardHeap(64, 1, 0);
        x.alloc(58);
        DUE.is("pointers()", x.pointers(), 0);
        DUE.is("leakScan()", x.leakScan(), 1);
        DUE.holds("setRoot(0, 0)", x.setRoot(0, 0));
        DUE.is("leakScan()", x.leakScan(), 1);
    }

    private static void anyNumber() {
        DUE.sentence("ROOT r becomes a number");
        GuardHeap x = Scene.busy();
        for (int a : new int[] {0, -1, 1, 5, 25, 41, 100, 3000, Integer.MIN_VALUE, Integer.MAX_VALUE}) {
            DUE.holds("setRoot(0, " + a + ")", x.setRoot(0, a));
            DUE.is("ROOT 0 is " + a + ": pointers()", x.pointers(), 3);
            DUE.is("ROOT 0 is " + a + ": leakScan()", x.leakScan(), 1);
        }
        DUE.holds("setRoot(3, -38)", x.setRoot(3, -38));
        DUE.is("ROOT 3 leads nowhere: leakScan()", x.leakScan(), 3);
        DUE.is("no FAULT more", x.count(13), 2);
    }

    private static void aRootLeadsByEveryWord() {
        DUE.sentence("A number LEADS to a LIVE BLOCK if it is the address of a word of it.");
        GuardHeap x = new GuardHeap(100, 3, 0);
        x.alloc(4);
        for (int a = -1; a <= 14; a++) {
            x.setRoot(15, a);
            int lost = a >= 4 && a <= 7 ? 0 : 1;
            DUE.is("ROOT 15 is " + a + ": leakScan()", x.leakScan(), lost);
            DUE.is("ROOT 15 is " + a + ": pointers()", x.pointers(), 1 - lost);
        }
    }

    private static void aRootStays() {
        DUE.sentence("ROOT r becomes a number");
        GuardHeap x = new GuardHeap(100, 1, 0);
        x.setRoot(0, 2);
        DUE.is("no BLOCK: pointers()", x.pointers(), 0);
        x.alloc(2);
        DUE.is("a BLOCK: pointers()", x.pointers(), 1);
        x.free(2);
        DUE.is("it went: pointers()", x.pointers(), 0);
        x.alloc(1);
        DUE.is("a later BLOCK: pointers()", x.pointers(), 1);
        DUE.is("a later BLOCK: leakScan()", x.leakScan(), 0);
    }
}
