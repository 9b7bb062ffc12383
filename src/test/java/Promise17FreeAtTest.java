/** Promise 17, freeAt: its edges. */
public final class Promise17FreeAtTest {
    private static final Due DUE = new Due("Promise 17, freeAt");

    public static void main(String[] args) {
        uppermostFirst();
        greatByAddresses();
        greatOfOtherSizesAreLeftOut();
        edgeOfSmall();
        noSuchNumber();
        noSuchSize();
        emptyAgain();
        changesNothing();
        DUE.end();
    }

    private static void uppermostFirst() {
        DUE.sentence("The address of the k-th FREE CHUNK of a SMALL SIZE, the uppermost first");
        for (int size : new int[] {4, 8, 60, 64}) {
            GuardHeap x = Scene.chunksOf(DUE, size, size, size, 4, 4);
            Scene.free(DUE, x, 2 + size, 2, 2 + 2 * size);
            Scene.chain(DUE, x, size, 1 + 2 * size, 1, 1 + size);
            x.alloc(size - 2);
            Scene.chain(DUE, x, size, 1, 1 + size);
            Scene.free(DUE, x, 2 + 2 * size);
            Scene.chain(DUE, x, size, 1 + 2 * size, 1, 1 + size);
        }
    }

    private static void greatByAddresses() {
        DUE.sentence("of a GREAT one, by addresses");
        for (int size : new int[] {68, 72, 400}) {
            GuardHeap x = Scene.chunksOf(DUE, size, 4, size, 4, size, 4);
            Scene.free(DUE, x, 6 + size, 10 + 2 * size, 2);
            Scene.chain(DUE, x, size, 1, 5 + size, 9 + 2 * size);
        }
    }

    private static void greatOfOtherSizesAreLeftOut() {
        DUE.sentence("of a GREAT one, by addresses");
        GuardHeap x = Scene.chunksOf(DUE, 72, 4, 68, 4, 72, 4, 68, 4);
        Scene.free(DUE, x, 226, 2, 78, 150);
        Scene.chain(DUE, x, 72, 1, 149);
        Scene.chain(DUE, x, 68, 77, 225);
        Scene.chain(DUE, x, 76);
    }

    private static void edgeOfSmall() {
        DUE.sentence("SMALL are SIZES up to 64, GREAT others.");
        GuardHeap x = Scene.chunksOf(DUE, 64, 4, 64, 4, 68, 4, 68, 4);
        Scene.free(DUE, x, 2, 70, 138, 210);
        Scene.chain(DUE, x, 64, 69, 1);
        Scene.chain(DUE, x, 68, 137, 209);
    }

    private static void noSuchNumber() {
        DUE.sentence("NONE if there is none such.");
        GuardHeap x = Scene.chunksOf(DUE, 8, 8, 4, 68, 4, 68, 4);
        Scene.free(DUE, x, 2, 10, 22, 94);
        for (int size : new int[] {8, 68}) {
            DUE.holds("freeAt(" + size + ", 1) is there", x.freeAt(size, 1) != GuardHeap.NONE);
            for (int k : new int[] {2, 3, 3000, -1, -2, Integer.MIN_VALUE, Integer.MAX_VALUE}) {
                DUE.is("freeAt(" + size + ", " + k + ")", x.freeAt(size, k), GuardHeap.NONE);
            }
        }
    }

    private static void noSuchSize() {
        DUE.sentence("NONE if there is none such.");
        GuardHeap x = Scene.chunksOf(DUE, 4, 8, 64, 68, 4);
        Scene.free(DUE, x, 2, 6, 14, 78);
        int[] none = {0, 1, 2, 3, 5, 6, 7, 9, 12, 60, 63, 65, 66, 67, 69, 72, 2996, 3000, 3001, -1, -3, -4, -64, -68};
        for (int size : none) {
            Scene.chain(DUE, x, size);
        }
        for (int size : Due.FAR) {
            Scene.chain(DUE, x, size);
        }
    }

    private static void emptyAgain() {
        DUE.sentence("NONE if there is none such.");
        GuardHeap x = Scene.chunksOf(DUE, 8, 68, 4);
        Scene.chain(DUE, x, 8);
        Scene.chain(DUE, x, 68);
        Scene.free(DUE, x, 2, 10);
        Scene.chain(DUE, x, 8, 1);
        Scene.chain(DUE, x, 68, 9);
        x.alloc(6);
        x.alloc(66);
        Scene.chain(DUE, x, 8);
        Scene.chain(DUE, x, 68);
    }

    private static void changesNothing() {
        DUE.sentence("NONE if there is none such.");
        for (int size : new int[] {4, 8, 0, -4, 68, Integer.MIN_VALUE, Integer.MAX_VALUE}) {
            Scene.unchanged(DUE, "freeAt(" + size + ", ..)", x -> {
                x.freeAt(size, 0);
                x.freeAt(size, 1);
                x.freeAt(size, -1);
            });
        }
    }
}
