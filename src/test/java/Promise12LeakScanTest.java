/** Promise 12, leakScan: its edges, with those of REACHED and LOST. */
public final class Promise12LeakScanTest {
    private static final Due DUE = new Due("Promise 12, leakScan");

    public static void main(String[] args) {
        noBlocks();
        allReached();
        allLost();
        manyBlocks();
        aLongChain();
        aRing();
        ledByItself();
        ledByEveryWord();
        ledToByTheZone();
        ledByAWaitingBlock();
        ledByAWaitingBlockAtFirst();
        waitingBlocksAreNotLost();
        ledByLeftWords();
        allLeadOnAndBack();
        aLaterOneForgetsTheEarlier();
        changesNothingElse();
        DUE.end();
    }

    /** Blocks of 2 words at 2, 6, 10, .. */
    private static GuardHeap pairs(int many) {
        GuardHeap x = new GuardHeap(3000, 1, 3000);
        for (int i = 0; i < many; i++) {
            x.alloc(2);
        }
        return x;
    }

    private static void noBlocks() {
        DUE.sentence("The LOST BLOCKS are looked for and kept: how many.");
        GuardHeap x = new GuardHeap(64, 1, 3000);
        DUE.is("the new heap", x.leakScan(), 0);
        x.alloc(58);
        x.free(2);
        DUE.is("one that waits", x.leakScan(), 0);
        DUE.is("leak(0, 0)", x.leak(0, 0), GuardHeap.NONE);
    }

    private static void allReached() {
        DUE.sentence("A BLOCK is REACHED if a ROOT, or a word of a BLOCK that is REACHED, LEADS to it.");
        GuardHeap x = pairs(16);
        for (int r = 0; r < 16; r++) {
            DUE.is("leakScan()", x.leakScan(), 16 - r);
            x.setRoot(r, 3 + 4 * r);
        }
        DUE.is("leakScan()", x.leakScan(), 0);
        DUE.is("leak(0, 0)", x.leak(0, 0), GuardHeap.NONE);
    }

    private static void allLost() {
        DUE.sentence("LOST are the LIVE BLOCKS that are not REACHED");
        GuardHeap x = pairs(3);
        DUE.is("leakScan()", x.leakScan(), 3);
        x.setRoot(0, 1);
        x.setRoot(1, 4);
        x.setRoot(2, 13);
        DUE.is("ROOTS beside them: leakScan()", x.leakScan(), 3);
    }

    private static void manyBlocks() {
        DUE.sentence("The LOST BLOCKS are looked for and kept: how many.");
        GuardHeap x = pairs(500);
        DUE.is("leakScan()", x.leakScan(), 500);
        DUE.is("leak(0, 0)", x.leak(0, 0), 2);
        DUE.is("leak(499, 0)", x.leak(499, 0), 1998);
        DUE.is("leak(499, 3)", x.leak(499, 3), 1);
        DUE.is("leak(500, 0)", x.leak(500, 0), GuardHeap.NONE);
    }

    private static void aLongChain() {
        DUE.sentence("A BLOCK is REACHED if a ROOT, or a word of a BLOCK that is REACHED, LEADS to it.");
        GuardHeap up = pairs(250);
        GuardHeap down = pairs(250);
        for (int i = 0; i < 249; i++) {
            up.store(3 + 4 * i, 6 + 4 * i);
            down.store(6 + 4 * i, 3 + 4 * i);
        }
        up.setRoot(0, 2);
        down.setRoot(0, 2 + 4 * 249);
        DUE.is("up: leakScan()", up.leakScan(), 0);
        DUE.is("down: leakScan()", down.leakScan(), 0);
        up.setRoot(0, 6);
        down.setRoot(0, 2 + 4 * 248);
        DUE.is("up from the second: leakScan()", up.leakScan(), 1);
        DUE.is("down from the last but one: leakScan()", down.leakScan(), 1);
        DUE.is("down: leak(0, 0)", down.leak(0, 0), 2 + 4 * 249);
    }

    private static void aRing() {
        DUE.sentence("A BLOCK is REACHED if a ROOT, or a word of a BLOCK that is REACHED, LEADS to it.");
        GuardHeap x = pairs(4);
        x.store(2, 6);
        x.store(6, 11);
        x.store(10, 3);
        DUE.is("no ROOT: leakScan()", x.leakScan(), 4);
        for (int a : new int[] {2, 3, 6, 7, 10, 11}) {
            x.setRoot(0, a);
            DUE.is("ROOT 0 is " + a + ": leakScan()", x.leakScan(), 1);
            DUE.is("ROOT 0 is " + a + ": leak(0, 0)", x.leak(0, 0), 14);
        }
    }

    private static void ledByItself() {
        DUE.sentence("LOST are the LIVE BLOCKS that are not REACHED");
        GuardHeap x = pairs(1);
        x.store(2, 2);
        x.store(3, 2);
        DUE.is("leakScan()", x.leakScan(), 1);
    }

    private static void ledByEveryWord() {
        DUE.sentence("A BLOCK is REACHED if a ROOT, or a word of a BLOCK that is REACHED, LEADS to it.");
        GuardHeap x = new GuardHeap(100, 1, 0);
        x.alloc(6);
        x.alloc(3);
        x.setRoot(0, 7);
        for (int a = 2; a <= 7; a++) {
            for (int number : new int[] {10, 12}) {
                x.store(a, number);
                DUE.is("word " + a + " is " + number + ": leakScan()", x.leakScan(), 0);
            }
            x.store(a, 0);
            DUE.is("word " + a + " is 0: leakScan()", x.leakScan(), 1);
        }
    }

    private static void ledToByTheZone() {
        DUE.sentence("A number LEADS to a LIVE BLOCK if it is the address of a word of it.");
        GuardHeap x = new GuardHeap(100, 1, 0);
        x.alloc(6);
        x.alloc(3);
        x.setRoot(0, 2);
        for (int number : new int[] {8, 9, 13, 14, 15, 16, 17, 0, -10, Integer.MIN_VALUE + 10, Integer.MAX_VALUE}) {
            x.store(7, number);
            DUE.is("word 7 is " + number + ": leakScan()", x.leakScan(), 1);
        }
    }

    private static void ledByAWaitingBlock() {
        DUE.sentence("A BLOCK is REACHED if a ROOT, or a word of a BLOCK that is REACHED, LEADS to it.");
        GuardHeap x = pairs(3);
        x.store(2, 6);
        x.store(6, 10);
        x.setRoot(0, 2);
        DUE.is("leakScan()", x.leakScan(), 0);
        x.free(6);
        DUE.is("the middle one waits: leakScan()", x.leakScan(), 1);
        DUE.is("leak(0, 0)", x.leak(0, 0), 10);
        x.free(2);
        DUE.is("the first one too: leakScan()", x.leakScan(), 1);
    }

    private static void ledByAWaitingBlockAtFirst() {
        DUE.sentence("A number LEADS to a LIVE BLOCK if it is the address of a word of it.");
        GuardHeap x = pairs(4);
        x.store(2, 6);
        x.store(6, 10);
        x.store(14, 10);
        x.setRoot(0, 2);
        x.setRoot(1, 14);
        x.free(6);
        x.free(14);
        DUE.is("by a word and by a ROOT: leakScan()", x.leakScan(), 1);
        DUE.is("leak(0, 0)", x.leak(0, 0), 10);
    }

    private static void waitingBlocksAreNotLost() {
        DUE.sentence("LOST are the LIVE BLOCKS that are not REACHED");
        GuardHeap x = pairs(3);
        DUE.is("leakScan()", x.leakScan(), 3);
        x.free(6);
        DUE.is("one waits: leakScan()", x.leakScan(), 2);
        DUE.is("leak(1, 0)", x.leak(1, 0), 10);
        x.free(2);
        x.free(10);
        DUE.is("all wait: leakScan()", x.leakScan(), 0);
    }

    private static void ledByLeftWords() {
        DUE.sentence("A BLOCK is REACHED if a ROOT, or a word of a BLOCK that is REACHED, LEADS to it.");
        GuardHeap x = Scene.leftInZones();
        x.setRoot(0, 6);
        DUE.is("words of its ZONE do not lead: leakScan()", x.leakScan(), 2);
        DUE.is("leak(1, 0)", x.leak(1, 0), 14);
        x.setRoot(1, 2);
        DUE.is("nor do those of the other's: leakScan()", x.leakScan(), 1);
        DUE.is("leak(0, 0)", x.leak(0, 0), 14);
    }

    private static void allLeadOnAndBack() {
        DUE.sentence("A BLOCK is REACHED if a ROOT, or a word of a BLOCK that is REACHED, LEADS to it.");
        GuardHeap x = new GuardHeap(64, 1, 0);
        for (int i = 0; i < 15; i++) {
            x.alloc(2);
            x.store(2 + 4 * i, 2);
            x.store(3 + 4 * i, 6 + 4 * i);
        }
        DUE.is("the heap is full", x.alloc(1), 0);
        DUE.is("no ROOT: leakScan()", x.leakScan(), 15);
        for (int i = 0; i < 15; i++) {
            x.setRoot(0, 2 + 4 * i);
            DUE.is("ROOT 0 is " + (2 + 4 * i) + ": leakScan()", x.leakScan(), 0);
        }
    }

    private static void aLaterOneForgetsTheEarlier() {
        DUE.sentence("The LOST BLOCKS are looked for and kept: how many.");
        GuardHeap x = pairs(4);
        DUE.is("leakScan()", x.leakScan(), 4);
        x.setRoot(0, 2);
        x.setRoot(1, 10);
        DUE.is("leakScan()", x.leakScan(), 2);
        DUE.is("leak(0, 0)", x.leak(0, 0), 6);
        DUE.is("leak(1, 0)", x.leak(1, 0), 14);
        DUE.is("leak(2, 0)", x.leak(2, 0), GuardHeap.NONE);
        x.setRoot(0, 0);
        DUE.is("no longer REACHED: leakScan()", x.leakScan(), 3);
        DUE.is("leak(0, 0)", x.leak(0, 0), 2);
    }

    private static void changesNothingElse() {
        DUE.sentence("The LOST BLOCKS are looked for and kept: how many.");
        Scene.unchanged(DUE, "leakScan()", x -> x.leakScan());
    }
}
