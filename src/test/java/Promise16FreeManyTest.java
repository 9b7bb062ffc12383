/** Promise 16, freeMany: its edges. */
public final class Promise16FreeManyTest {
    private static final Due DUE = new Due("Promise 16, freeMany");

    public static void main(String[] args) {
        noSuchSize();
        everySize();
        edgeOfSmall();
        manyOfOneSize();
        onlyFreeChunks();
        changesNothing();
        DUE.end();
    }

    private static void noSuchSize() {
        DUE.sentence("How many FREE CHUNKS of a SIZE there are.");
        GuardHeap x = Scene.chunksOf(DUE, 4, 8, 64, 68, 4);
        Scene.free(DUE, x, 2, 6, 14, 78);
        int[] none = {0, 1, 2, 3, 5, 6, 7, 9, 10, 11, 12, 60, 62, 63, 65, 66, 67, 69, 70, 72, 2996, 3000, 3001, -1, -3, -4, -8, -64, -68};
        for (int size : none) {
            DUE.is("freeMany(" + size + ")", x.freeMany(size), 0);
        }
        for (int size : Due.FAR) {
            DUE.is("freeMany(" + size + ")", x.freeMany(size), 0);
        }
        for (int size : new int[] {4, 8, 64, 68}) {
            DUE.is("freeMany(" + size + ")", x.freeMany(size), 1);
        }
    }

    private static void everySize() {
        DUE.sentence("How many FREE CHUNKS of a SIZE there are.");
        for (int size = 4; size <= 132; size += 4) {
            GuardHeap x = Scene.chunksOf(DUE, size, 4);
            Scene.free(DUE, x, 2);
            for (int asked = 4; asked <= 136; asked += 4) {
                DUE.is("one of " + size + ": freeMany(" + asked + ")", x.freeMany(asked), asked == size ? 1 : 0);
            }
        }
    }

    private static void edgeOfSmall() {
        DUE.sentence("SMALL are SIZES up to 64, GREAT others.");
        GuardHeap x = Scene.chunksOf(DUE, 64, 64, 68, 68, 4);
        Scene.free(DUE, x, 2, 66, 130, 198);
        DUE.is("freeMany(64)", x.freeMany(64), 2);
        DUE.is("freeMany(68)", x.freeMany(68), 0);
        DUE.is("freeMany(128)", x.freeMany(128), 0);
        DUE.is("freeMany(136)", x.freeMany(136), 1);
    }

    private static void manyOfOneSize() {
        DUE.sentence("How many FREE CHUNKS of a SIZE there are.");
        GuardHeap x = new GuardHeap(3000, 1, 0);
        for (int i = 0; i < 100; i++) {
            x.alloc(2);
        }
        for (int i = 0; i < 100; i++) {
            x.free(2 + 4 * i);
            DUE.is("freeMany(4)", x.freeMany(4), i + 1);
        }
        for (int i = 99; i >= 0; i--) {
            x.alloc(1);
            DUE.is("freeMany(4)", x.freeMany(4), i);
        }
    }

    private static void onlyFreeChunks() {
        DUE.sentence("a CHUNK without a BLOCK is FREE");
        GuardHeap x = new GuardHeap(64, 1, 8);
        x.alloc(6);
        DUE.is("LIVE: freeMany(8)", x.freeMany(8), 0);
        x.free(2);
        DUE.is("waiting: freeMany(8)", x.freeMany(8), 0);
        x.alloc(3000);
        DUE.is("it went: freeMany(8)", x.freeMany(8), 1);
        DUE.is("from TOP on: freeMany(52)", x.freeMany(52), 0);
        x.alloc(6);
        DUE.is("LIVE again: freeMany(8)", x.freeMany(8), 0);
    }

    private static void changesNothing() {
        DUE.sentence("How many FREE CHUNKS of a SIZE there are.");
        for (int size : new int[] {4, 8, 0, -4, 68, Integer.MIN_VALUE, Integer.MAX_VALUE}) {
            Scene.unchanged(DUE, "freeMany(" + size + ")", x -> x.freeMany(size));
        }
    }
}
