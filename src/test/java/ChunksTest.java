/** Promises 16 and 17, freeMany and freeAt, and by them how chunks are FOUND and RELEASED. */
public final class ChunksTest {
    private static final Due DUE = new Due("ChunksTest");

    public static void main(String[] args) {
        pilesGiveTheLatestFirst();
        smallChunksNeverJoin();
        leastGreaterPileIsSplit();
        pilesComeAheadOfGreatOnes();
        greatByLeastSizeThenLeastAddress();
        greatChunksJoinOnBothSides();
        greatChunksGoBackToTop();
        edgeBetweenSmallAndGreat();
        restsOfGreatChunks();
        wrongSizesAndNumbers();
        DUE.end();
    }

    private static void pilesGiveTheLatestFirst() {
        GuardHeap x = Scene.chunksOf(DUE, 8, 8, 8, 4);
        Scene.free(DUE, x, 10, 2, 18);
        Scene.chain(DUE, x, 8, 17, 1, 9);
        DUE.is("FREE CHUNKS", x.count(5), 3);
        DUE.is("FREE words", x.count(6), 24);
        DUE.is("alloc(5)", x.alloc(5), 18);
        DUE.is("FREE CHUNKS", x.count(5), 2);
        DUE.is("FREE words", x.count(6), 16);
        Scene.chain(DUE, x, 8, 1, 9);
        DUE.is("alloc(6)", x.alloc(6), 2);
        DUE.is("alloc(3)", x.alloc(3), 10);
        Scene.chain(DUE, x, 8);
        DUE.is("no splits", x.count(10), 0);
    }

    private static void smallChunksNeverJoin() {
        GuardHeap x = Scene.chunksOf(DUE, 64, 64, 4);
        Scene.free(DUE, x, 2, 66, 130);
        Scene.chain(DUE, x, 64, 65, 1);
        Scene.chain(DUE, x, 4, 129);
        DUE.is("TOP stays", x.count(0), 133);
        DUE.is("no joins", x.count(11), 0);
        DUE.is("alloc(100)", x.alloc(100), 134);
    }

    private static void leastGreaterPileIsSplit() {
        GuardHeap x = Scene.chunksOf(DUE, 24, 16, 12, 4);
        Scene.free(DUE, x, 2, 26, 42);
        DUE.is("alloc(4), 8 words out of 12", x.alloc(4), 42);
        Scene.chain(DUE, x, 12);
        Scene.chain(DUE, x, 4, 49);
        DUE.is("alloc(4), 8 words out of 16", x.alloc(4), 26);
        Scene.chain(DUE, x, 8, 33);
        DUE.is("alloc(10), 12 words out of 24", x.alloc(10), 2);
        Scene.chain(DUE, x, 12, 13);
        DUE.is("splits", x.count(10), 3);
        Scene.chain(DUE, x, 24);
    }

    private static void pilesComeAheadOfGreatOnes() {
        GuardHeap x = Scene.chunksOf(DUE, 68, 4, 64, 4);
        Scene.free(DUE, x, 2, 74);
        DUE.is("alloc(2) out of 64", x.alloc(2), 74);
        Scene.chain(DUE, x, 60, 77);
        DUE.is("alloc(60) out of 68", x.alloc(60), 2);
        Scene.chain(DUE, x, 4, 65);
        Scene.chain(DUE, x, 68);
        DUE.is("splits", x.count(10), 2);
    }

    private static void greatByLeastSizeThenLeastAddress() {
        GuardHeap x = Scene.chunksOf(DUE, 100, 4, 80, 4, 80, 4, 72, 4);
        Scene.free(DUE, x, 190, 2, 106, 274);
        Scene.chain(DUE, x, 80, 105, 189);
        Scene.chain(DUE, x, 100, 1);
        DUE.is("alloc(74), 76 words", x.alloc(74), 106);
        Scene.chain(DUE, x, 80, 189);
        Scene.chain(DUE, x, 4, 181);
        DUE.is("alloc(78), just 80", x.alloc(78), 190);
        DUE.is("alloc(67), 72 words", x.alloc(67), 274);
        DUE.is("alloc(67) out of 100", x.alloc(67), 2);
        Scene.chain(DUE, x, 28, 73);
        DUE.is("alloc(67) from TOP", x.alloc(67), 350);
    }

    private static void greatChunksJoinOnBothSides() {
        GuardHeap x = Scene.chunksOf(DUE, 68, 72, 76, 4);
        Scene.free(DUE, x, 2, 142);
        Scene.chain(DUE, x, 68, 1);
        Scene.chain(DUE, x, 76, 141);
        DUE.is("no joins", x.count(11), 0);
        Scene.free(DUE, x, 70);
        Scene.chain(DUE, x, 216, 1);
        DUE.is("joins", x.count(11), 2);
        DUE.is("FREE CHUNKS", x.count(5), 1);
        DUE.is("FREE words", x.count(6), 216);
        GuardHeap y = Scene.chunksOf(DUE, 68, 72, 4);
        Scene.free(DUE, y, 70, 2);
        Scene.chain(DUE, y, 140, 1);
        DUE.is("joins", y.count(11), 1);
    }

    private static void greatChunksGoBackToTop() {
        GuardHeap x = Scene.chunksOf(DUE, 68, 72, 76);
        Scene.free(DUE, x, 70);
        DUE.is("TOP", x.count(0), 217);
        Scene.free(DUE, x, 142);
        DUE.is("TOP goes back by both", x.count(0), 69);
        DUE.is("joins", x.count(11), 1);
        DUE.is("FREE CHUNKS", x.count(5), 0);
        DUE.is("FREE words", x.count(6), 0);
        DUE.is("check(70)", x.check(70), 3);
        Scene.free(DUE, x, 2);
        DUE.is("TOP", x.count(0), 1);
        DUE.is("joins", x.count(11), 1);
        DUE.is("highest TOP", x.count(12), 217);
        // a small chunk that is FREE stands between a great one and TOP
        GuardHeap y = Scene.chunksOf(DUE, 68, 4);
        Scene.free(DUE, y, 70, 2);
        DUE.is("TOP stays", y.count(0), 73);
        Scene.chain(DUE, y, 68, 1);
    }

    private static void edgeBetweenSmallAndGreat() {
        GuardHeap x = Scene.chunksOf(DUE, 64, 68);
        Scene.free(DUE, x, 2, 66);
        DUE.is("68 is GREAT: TOP", x.count(0), 65);
        Scene.chain(DUE, x, 64, 1);
        DUE.is("64 is SMALL: FREE CHUNKS", x.count(5), 1);
        DUE.is("alloc(66) does not join them", x.alloc(66), 66);
    }

    private static void restsOfGreatChunks() {
        GuardHeap x = Scene.chunksOf(DUE, 136, 4);
        Scene.free(DUE, x, 2);
        DUE.is("alloc(66), 68 words", x.alloc(66), 2);
        Scene.chain(DUE, x, 68, 69);
        Scene.free(DUE, x, 2);
        Scene.chain(DUE, x, 136, 1);
        DUE.is("joins", x.count(11), 1);
        DUE.is("alloc(70), 72 words", x.alloc(70), 2);
        Scene.chain(DUE, x, 64, 73);
        Scene.free(DUE, x, 2);
        Scene.chain(DUE, x, 72, 1);
        DUE.is("a SMALL rest does not join", x.count(11), 1);
        DUE.is("alloc(2) out of the rest", x.alloc(2), 74);
        Scene.chain(DUE, x, 60, 77);
        DUE.is("splits", x.count(10), 3);
    }

    private static void wrongSizesAndNumbers() {
        GuardHeap x = Scene.chunksOf(DUE, 4, 8, 64, 68, 4);
        Scene.free(DUE, x, 2, 6, 14, 78);
        int[] none = {0, 1, 2, 3, 5, 6, 7, 9, 12, 63, 65, 66, 67, 69, 72, 3000, 3001, -1, -4, -64,
            Integer.MAX_VALUE, Integer.MIN_VALUE};
        for (int size : none) {
            Scene.chain(DUE, x, size);
        }
        for (int k : new int[] {1, 2, -1, Integer.MAX_VALUE, Integer.MIN_VALUE}) {
            DUE.is("freeAt(4, " + k + ")", x.freeAt(4, k), GuardHeap.NONE);
            DUE.is("freeAt(68, " + k + ")", x.freeAt(68, k), GuardHeap.NONE);
        }
        Scene.chain(DUE, x, 4, 1);
        Scene.chain(DUE, x, 8, 5);
        Scene.chain(DUE, x, 64, 13);
        Scene.chain(DUE, x, 68, 77);
    }
}
