/** Promises 11 to 14: setRoot, leakScan, leak, pointers. */
public final class LeaksTest {
    private static final Due DUE = new Due("LeaksTest");

    public static void main(String[] args) {
        roots();
        everyWordOfABlockLeadsToIt();
        chainsAndRings();
        headsLookAtOtherLostBlocksAlone();
        waitingBlocksAndTheirWordsDoNotCount();
        whatIsKeptStays();
        wrongLeaks();
        pointersOfWordsAndRoots();
        wordsOfTheZoneDoNotLead();
        aLongChain();
        DUE.end();
    }

    private static void roots() {
        GuardHeap x = new GuardHeap(200, 1, 0);
        x.alloc(2);
        for (int r = 0; r < 16; r++) {
            DUE.holds("setRoot(" + r + ", 2)", x.setRoot(r, 2));
            DUE.is("ROOT " + r + ": leakScan()", x.leakScan(), 0);
            DUE.is("ROOT " + r + ": pointers()", x.pointers(), 1);
            DUE.holds("setRoot(" + r + ", 0)", x.setRoot(r, 0));
            DUE.is("ROOT " + r + " is 0: leakScan()", x.leakScan(), 1);
        }
        for (int r : new int[] {16, -1, Integer.MAX_VALUE, Integer.MIN_VALUE}) {
            DUE.holds("no ROOT " + r, !x.setRoot(r, 2));
        }
        DUE.is("leakScan()", x.leakScan(), 1);
        for (int a : new int[] {-1, 200, Integer.MAX_VALUE, Integer.MIN_VALUE}) {
            DUE.holds("setRoot(3, " + a + ")", x.setRoot(3, a));
            DUE.is("ROOT 3 is " + a + ": leakScan()", x.leakScan(), 1);
            DUE.is("ROOT 3 is " + a + ": pointers()", x.pointers(), 0);
        }
    }

    private static void everyWordOfABlockLeadsToIt() {
        GuardHeap x = new GuardHeap(200, 2, 0);
        x.alloc(3);
        // chunk 1 to 8, words 3 to 5
        for (int a = 0; a < 12; a++) {
            x.setRoot(7, a);
            int lost = a >= 3 && a <= 5 ? 0 : 1;
            DUE.is("ROOT 7 is " + a + ": leakScan()", x.leakScan(), lost);
            DUE.is("ROOT 7 is " + a + ": pointers()", x.pointers(), 1 - lost);
        }
    }

    /** Blocks of 2 words at 2, 6, 10, .. */
    private static GuardHeap pairs(int many) {
        GuardHeap x = new GuardHeap(3000, 1, 3000);
        for (int i = 0; i < many; i++) {
            x.alloc(2);
        }
        return x;
    }

    private static void lost(GuardHeap x, int[] starts, int[] heads) {
        DUE.is("leakScan()", x.leakScan(), starts.length);
        for (int i = 0; i < starts.length; i++) {
            DUE.is("leak(" + i + ", 0)", x.leak(i, 0), starts[i]);
            DUE.is("leak(" + i + ", 1)", x.leak(i, 1), 2);
            DUE.is("leak(" + i + ", 2)", x.leak(i, 2), (starts[i] - 2) / 4);
            DUE.is("leak(" + i + ", 3)", x.leak(i, 3), heads[i]);
        }
        DUE.is("leak behind the last", x.leak(starts.length, 0), GuardHeap.NONE);
    }

    private static void chainsAndRings() {
        GuardHeap x = pairs(5);
        x.store(18, 11);
        x.store(11, 6);
        x.store(6, 2);
        lost(x, new int[] {2, 6, 10, 14, 18}, new int[] {0, 0, 0, 1, 1});
        x.setRoot(0, 19);
        lost(x, new int[] {14}, new int[] {1});
        x.setRoot(0, 7);
        lost(x, new int[] {10, 14, 18}, new int[] {0, 1, 1});
        x.store(14, 18);
        x.store(10, 14);
        lost(x, new int[] {10, 14, 18}, new int[] {0, 0, 0});
        x.setRoot(1, 15);
        lost(x, new int[] {}, new int[] {});
    }

    private static void headsLookAtOtherLostBlocksAlone() {
        GuardHeap x = pairs(3);
        x.store(2, 3);
        x.store(3, 2);
        lost(x, new int[] {2, 6, 10}, new int[] {1, 1, 1});
        x.store(6, 2);
        lost(x, new int[] {2, 6, 10}, new int[] {0, 1, 1});
        // a block that is reached leads to what is reached, never to a lost one
        x.store(10, 10);
        x.store(11, 6);
        lost(x, new int[] {2, 6, 10}, new int[] {0, 0, 1});
        x.setRoot(5, 2);
        lost(x, new int[] {6, 10}, new int[] {0, 1});
    }

    private static void waitingBlocksAndTheirWordsDoNotCount() {
        GuardHeap x = pairs(3);
        x.store(2, 6);
        x.store(6, 10);
        x.setRoot(0, 2);
        lost(x, new int[] {}, new int[] {});
        DUE.is("pointers()", x.pointers(), 3);
        x.free(6);
        lost(x, new int[] {10}, new int[] {1});
        DUE.is("pointers()", x.pointers(), 1);
        x.free(2);
        lost(x, new int[] {10}, new int[] {1});
        DUE.is("pointers()", x.pointers(), 0);
        x.free(10);
        lost(x, new int[] {}, new int[] {});
    }

    private static void whatIsKeptStays() {
        GuardHeap x = pairs(3);
        x.store(2, 6);
        DUE.is("leakScan()", x.leakScan(), 3);
        x.store(2, 0);
        x.store(10, 2);
        x.free(6);
        x.setRoot(0, 2);
        x.alloc(3000);
        x.alloc(1);
        int[] heads = {1, 0, 1};
        for (int i = 0; i < 3; i++) {
            DUE.is("START as it was", x.leak(i, 0), 2 + 4 * i);
            DUE.is("words as they were", x.leak(i, 1), 2);
            DUE.is("SERIAL as it was", x.leak(i, 2), i);
            DUE.is("HEAD as it was", x.leak(i, 3), heads[i]);
        }
        DUE.is("leakScan() anew", x.leakScan(), 2);
        DUE.is("the new one has 1 word", x.leak(0, 1), 1);
        DUE.is("the new one's SERIAL", x.leak(0, 2), 3);
        DUE.is("leak(1, 0)", x.leak(1, 0), 10);
        DUE.is("leak(2, 0)", x.leak(2, 0), GuardHeap.NONE);
    }

    private static void wrongLeaks() {
        GuardHeap x = pairs(2);
        DUE.is("no leakScan() yet", x.leak(0, 0), GuardHeap.NONE);
        x.leakScan();
        for (int i : new int[] {2, 3, -1, Integer.MAX_VALUE, Integer.MIN_VALUE}) {
            for (int what = -1; what <= 4; what++) {
                DUE.is("leak(" + i + ", " + what + ")", x.leak(i, what), GuardHeap.NONE);
            }
        }
        for (int what : new int[] {4, -1, Integer.MAX_VALUE, Integer.MIN_VALUE}) {
            DUE.is("leak(1, " + what + ")", x.leak(1, what), GuardHeap.NONE);
        }
    }

    private static void pointersOfWordsAndRoots() {
        GuardHeap x = pairs(3);
        DUE.is("pointers()", x.pointers(), 0);
        x.store(2, 2);
        x.store(3, 3);
        x.store(6, 11);
        x.store(7, 12);
        x.store(10, 1);
        x.store(11, -6);
        x.setRoot(0, 6);
        x.setRoot(1, 6);
        x.setRoot(2, 8);
        x.setRoot(15, 10);
        DUE.is("pointers()", x.pointers(), 6);
        DUE.is("leakScan()", x.leakScan(), 1);
    }

    /** What an earlier block left in the words that are now the zone's leads nowhere. */
    private static void wordsOfTheZoneDoNotLead() {
        GuardHeap x = new GuardHeap(200, 1, 0);
        x.alloc(6);
        x.alloc(2);
        x.store(7, 10);
        x.free(2);
        DUE.is("alloc(5) in the same chunk", x.alloc(5), 2);
        DUE.is("zone: pointers()", x.pointers(), 0);
        DUE.is("zone: leakScan()", x.leakScan(), 2);
        DUE.is("zone: leak(1, 3)", x.leak(1, 3), 1);
        x.setRoot(0, 2);
        DUE.is("zone, reached: leakScan()", x.leakScan(), 1);
        DUE.is("zone, reached: leak(0, 0)", x.leak(0, 0), 10);
        DUE.is("zone, reached: pointers()", x.pointers(), 1);
    }

    private static void aLongChain() {
        GuardHeap x = pairs(200);
        for (int i = 0; i < 199; i++) {
            x.store(2 + 4 * i, 6 + 4 * i);
        }
        DUE.is("long: leakScan()", x.leakScan(), 200);
        DUE.is("long: leak(0, 3)", x.leak(0, 3), 1);
        DUE.is("long: leak(199, 3)", x.leak(199, 3), 0);
        DUE.is("long: leak(199, 0)", x.leak(199, 0), 798);
        x.setRoot(9, 403);
        DUE.is("long: leakScan()", x.leakScan(), 100);
        DUE.is("long: leak(99, 0)", x.leak(99, 0), 398);
        DUE.is("long: pointers()", x.pointers(), 200);
    }
}
