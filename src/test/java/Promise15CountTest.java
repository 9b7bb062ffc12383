/** Promise 15, count: its edges. */
public final class Promise15CountTest {
    private static final Due DUE = new Due("Promise 15, count");

    public static void main(String[] args) {
        anotherWhat();
        aBusyHeap();
        emptyAndFull();
        liveBlocksAndWords();
        waitingBlocksAndWords();
        freeChunksAndWords();
        freedAndGone();
        splits();
        joins();
        highestTop();
        moreFaultsThanAreKept();
        changesNothing();
        DUE.end();
    }

    private static void anotherWhat() {
        DUE.sentence("NONE for another what.");
        for (int what : new int[] {-1, -2, 17, 18, Integer.MIN_VALUE, Integer.MAX_VALUE}) {
            DUE.is("count(" + what + ")", Scene.busy().count(what), GuardHeap.NONE);
            DUE.is("the new heap: count(" + what + ")", new GuardHeap(64, 1, 0).count(what), GuardHeap.NONE);
        }
    }

    private static void counts(GuardHeap x, int... due) {
        for (int what = 0; what < due.length; what++) {
            DUE.is("count(" + what + ")", x.count(what), due[what]);
        }
    }

    private static void aBusyHeap() {
        DUE.sentence("what 0 TOP; 1 LIVE BLOCKS, 2 their words; 3 BLOCKS that wait, 4 words of their CHUNKS");
        counts(Scene.busy(), 41, 3, 17, 2, 12, 1, 4, 6, 3, 1, 0, 0, 41, 2, 100, 1, 12);
    }

    private static void emptyAndFull() {
        DUE.sentence("what 0 TOP");
        GuardHeap x = new GuardHeap(65, 1, 0);
        counts(x, 1, 0, 0, 0, 0, 0, 0, 0, 0, 0, 0, 0, 1, 0, 65, 1, 0);
        x.alloc(62);
        counts(x, 65, 1, 62, 0, 0, 0, 0, 1, 0, 0, 0, 0, 65, 0, 65, 1, 0);
        x.alloc(1);
        counts(x, 65, 1, 62, 0, 0, 0, 0, 1, 0, 0, 0, 0, 65, 0, 65, 1, 0);
    }

    private static void liveBlocksAndWords() {
        DUE.sentence("1 LIVE BLOCKS, 2 their words");
        GuardHeap x = new GuardHeap(100, 8, 100);
        x.alloc(1);
        DUE.is("LIVE", x.count(1), 1);
        DUE.is("not the ZONE's words", x.count(2), 1);
        x.resize(9, 3);
        DUE.is("LIVE", x.count(1), 1);
        DUE.is("their words", x.count(2), 3);
        x.resize(29, 3000);
        x.resize(30, 5);
        x.alloc(0);
        DUE.is("refused: LIVE", x.count(1), 1);
        DUE.is("refused: their words", x.count(2), 3);
        x.free(29);
        DUE.is("none is LIVE", x.count(1), 0);
        DUE.is("no words", x.count(2), 0);
    }

    private static void waitingBlocksAndWords() {
        DUE.sentence("3 BLOCKS that wait, 4 words of their CHUNKS");
        GuardHeap x = new GuardHeap(100, 1, 12);
        x.alloc(1);
        x.alloc(5);
        x.alloc(1);
        x.free(2);
        DUE.is("one waits", x.count(3), 1);
        DUE.is("words of its CHUNK", x.count(4), 4);
        x.free(6);
        DUE.is("two wait", x.count(3), 2);
        DUE.is("words of their CHUNKS", x.count(4), 12);
        x.free(14);
        DUE.is("one went: two wait", x.count(3), 2);
        DUE.is("one went: words of their CHUNKS", x.count(4), 12);
        x.alloc(3000);
        DUE.is("none waits", x.count(3), 0);
        DUE.is("no words", x.count(4), 0);
    }

    private static void freeChunksAndWords() {
        DUE.sentence("5 FREE CHUNKS, 6 their words");
        GuardHeap x = Scene.chunksOf(DUE, 4, 64, 68, 8);
        Scene.free(DUE, x, 2, 6);
        DUE.is("two SMALL ones", x.count(5), 2);
        DUE.is("their words", x.count(6), 68);
        Scene.free(DUE, x, 70);
        DUE.is("and a GREAT one", x.count(5), 3);
        DUE.is("their words", x.count(6), 136);
        x.alloc(62);
        DUE.is("without the one of 64", x.count(5), 2);
        DUE.is("their words", x.count(6), 72);
        x.alloc(6);
        DUE.is("a rest of 60", x.count(5), 2);
        DUE.is("their words", x.count(6), 64);
        Scene.free(DUE, x, 138);
        DUE.is("and one of 8", x.count(5), 3);
        DUE.is("their words", x.count(6), 72);
    }

    private static void freedAndGone() {
        DUE.sentence("7 BLOCKS GIVEN in all, 8 FREED in all, 9 that went from the QUEUE");
        GuardHeap x = new GuardHeap(100, 1, 4);
        x.alloc(2);
        x.alloc(2);
        counts(x, 9, 2, 4, 0, 0, 0, 0, 2, 0, 0);
        x.free(2);
        counts(x, 9, 1, 2, 1, 4, 0, 0, 2, 1, 0);
        x.free(2);
        x.free(3);
        counts(x, 9, 1, 2, 1, 4, 0, 0, 2, 1, 0);
        x.free(6);
        counts(x, 9, 0, 0, 1, 4, 1, 4, 2, 2, 1);
        x.alloc(3000);
        counts(x, 9, 0, 0, 0, 0, 2, 8, 2, 2, 2);
        x.alloc(1);
        x.resize(6, 2);
        counts(x, 9, 1, 2, 1, 4, 0, 0, 4, 3, 2);
    }

    private static void splits() {
        DUE.sentence("10 splits (where a CHUNK that was FOUND was greater)");
        GuardHeap x = Scene.chunksOf(DUE, 8, 72, 4);
        DUE.is("TOP is no CHUNK", x.count(10), 0);
        Scene.free(DUE, x, 2, 10);
        DUE.is("alloc(6), just 8", x.alloc(6), 2);
        DUE.is("no split", x.count(10), 0);
        DUE.is("alloc(70), just 72", x.alloc(70), 10);
        DUE.is("no split", x.count(10), 0);
        Scene.free(DUE, x, 2, 10);
        DUE.is("alloc(2) out of 8", x.alloc(2), 2);
        DUE.is("one split", x.count(10), 1);
        DUE.is("alloc(66) out of 72", x.alloc(66), 10);
        DUE.is("two splits", x.count(10), 2);
    }

    private static void joins() {
        DUE.sentence("11 joins (each CHUNK that became one with another one)");
        GuardHeap x = Scene.chunksOf(DUE, 68, 68, 68, 68, 68, 64, 68);
        Scene.free(DUE, x, 2, 138);
        DUE.is("none", x.count(11), 0);
        Scene.free(DUE, x, 70);
        DUE.is("with both", x.count(11), 2);
        Scene.free(DUE, x, 206);
        DUE.is("with the one ahead", x.count(11), 3);
        Scene.free(DUE, x, 342);
        DUE.is("SMALL ones do not", x.count(11), 3);
        Scene.free(DUE, x, 406);
        DUE.is("nor does TOP", x.count(11), 3);
        Scene.free(DUE, x, 274);
        DUE.is("with the one ahead", x.count(11), 4);
        Scene.chain(DUE, x, 340, 1);
    }

    private static void highestTop() {
        DUE.sentence("12 the highest TOP ever");
        GuardHeap x = new GuardHeap(300, 1, 0);
        x.alloc(66);
        x.free(2);
        DUE.is("TOP", x.count(0), 1);
        DUE.is("the highest", x.count(12), 69);
        x.alloc(62);
        DUE.is("TOP", x.count(0), 65);
        DUE.is("the highest", x.count(12), 69);
        x.alloc(2);
        DUE.is("the same: TOP", x.count(0), 69);
        DUE.is("the same: the highest", x.count(12), 69);
        x.alloc(2);
        DUE.is("more: the highest", x.count(12), 73);
        x.alloc(3000);
        DUE.is("refused: the highest", x.count(12), 73);
    }

    private static void moreFaultsThanAreKept() {
        DUE.sentence("13 FAULTS in all");
        GuardHeap x = new GuardHeap(64, 1, 0);
        x.alloc(2);
        for (int i = 1; i <= 70; i++) {
            x.load(1);
            DUE.is("count(13)", x.count(13), i);
        }
        x.store(0, 1);
        x.free(3);
        x.resize(3, 1);
        x.copy(2, 1, 1);
        DUE.is("of each kind", x.count(13), 74);
        x.check(1);
        x.sizeOf(1);
        x.resize(3, 0);
        x.copy(1, 1, -1);
        x.copy(1, 1, 3001);
        x.copy(1, 1, 0);
        x.setRoot(16, 1);
        x.alloc(0);
        x.alloc(3000);
        x.resize(2, 3000);
        DUE.is("these are none", x.count(13), 74);
    }

    private static void changesNothing() {
        DUE.sentence("NONE for another what.");
        Scene.unchanged(DUE, "count", x -> {
            for (int what = -1; what <= 17; what++) {
                x.count(what);
            }
        });
    }
}
