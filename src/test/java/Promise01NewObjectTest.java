/** Promise 1, a new object: its limits. */
public final class Promise01NewObjectTest {
    private static final Due DUE = new Due("Promise 1, a new object");

    public static void main(String[] args) {
        wordsTooFew();
        wordsTooMany();
        wordsAtTheEdges();
        redTooSmall();
        redTooLarge();
        redAtTheEdges();
        capTooSmall();
        capTooLarge();
        capAtTheEdges();
        nothingIsGivenOut();
        DUE.end();
    }

    private static void wordsTooFew() {
        DUE.sentence("WORDS as told (64 to 3000, of others the nearest)");
        for (int words : new int[] {63, 1, 0, -1, -64, Integer.MIN_VALUE}) {
            GuardHeap x = new GuardHeap(words, 1, 0);
            DUE.is(words + ": WORDS", x.count(14), 64);
            DUE.is(words + ": alloc(59)", x.alloc(59), 0);
            DUE.is(words + ": alloc(58)", x.alloc(58), 2);
        }
    }

    private static void wordsTooMany() {
        DUE.sentence("WORDS as told (64 to 3000, of others the nearest)");
        for (int words : new int[] {3001, 3002, 6000, Integer.MAX_VALUE}) {
            GuardHeap x = new GuardHeap(words, 1, 0);
            DUE.is(words + ": WORDS", x.count(14), 3000);
            DUE.is(words + ": alloc(2995)", x.alloc(2995), 0);
            DUE.is(words + ": alloc(2994)", x.alloc(2994), 2);
        }
    }

    private static void wordsAtTheEdges() {
        DUE.sentence("WORDS as told (64 to 3000, of others the nearest)");
        // the most words of a block with RED 1, by WORDS
        int[][] most = {{64, 58}, {65, 62}, {66, 62}, {68, 62}, {69, 66}, {2996, 2990}, {2997, 2994}, {2999, 2994}, {3000, 2994}};
        for (int[] row : most) {
            GuardHeap x = new GuardHeap(row[0], 1, 0);
            DUE.is(row[0] + ": WORDS", x.count(14), row[0]);
            DUE.is(row[0] + ": alloc of one word too many", x.alloc(row[1] + 1), 0);
            DUE.is(row[0] + ": alloc(" + row[1] + ")", x.alloc(row[1]), 2);
        }
    }

    private static void redTooSmall() {
        DUE.sentence("RED 1 to 8");
        for (int red : new int[] {0, -1, -8, Integer.MIN_VALUE}) {
            GuardHeap x = new GuardHeap(100, red, 0);
            DUE.is(red + ": RED", x.count(15), 1);
            DUE.is(red + ": alloc(2)", x.alloc(2), 2);
            DUE.is(red + ": its CHUNK", x.describe(2, 2), 4);
        }
    }

    private static void redTooLarge() {
        DUE.sentence("RED 1 to 8");
        for (int red : new int[] {9, 10, 3000, Integer.MAX_VALUE}) {
            GuardHeap x = new GuardHeap(100, red, 0);
            DUE.is(red + ": RED", x.count(15), 8);
            DUE.is(red + ": alloc(4)", x.alloc(4), 9);
            DUE.is(red + ": its CHUNK", x.describe(9, 2), 20);
        }
    }

    private static void redAtTheEdges() {
        DUE.sentence("RED 1 to 8");
        for (int red = 1; red <= 8; red++) {
            GuardHeap x = new GuardHeap(100, red, 0);
            DUE.is(red + ": RED", x.count(15), red);
            DUE.is(red + ": alloc(4)", x.alloc(4), 1 + red);
        }
    }

    /** A block with a CHUNK of 4 words, freed in a heap of this CAP, waits or does not. */
    private static void capOf(int cap, int due, int waiting) {
        GuardHeap x = new GuardHeap(100, 1, cap);
        x.alloc(2);
        x.free(2);
        DUE.is(cap + ": CAP", x.count(16), due);
        DUE.is(cap + ": BLOCKS that wait", x.count(3), waiting);
    }

    private static void capTooSmall() {
        DUE.sentence("CAP 0 to 3000 (likewise)");
        for (int cap : new int[] {-1, -4, Integer.MIN_VALUE}) {
            capOf(cap, 0, 0);
        }
    }

    private static void capTooLarge() {
        DUE.sentence("CAP 0 to 3000 (likewise)");
        for (int cap : new int[] {3001, 6000, Integer.MAX_VALUE}) {
            capOf(cap, 3000, 1);
        }
    }

    private static void capAtTheEdges() {
        DUE.sentence("CAP 0 to 3000 (likewise)");
        capOf(0, 0, 0);
        capOf(1, 1, 0);
        capOf(3, 3, 0);
        capOf(4, 4, 1);
        capOf(2999, 2999, 1);
        capOf(3000, 3000, 1);
        GuardHeap x = new GuardHeap(3000, 1, 3000);
        x.alloc(2994);
        x.free(2);
        DUE.is("3000: words of the largest CHUNK that waits", x.count(4), 2996);
    }

    private static void nothingIsGivenOut() {
        DUE.sentence("Nothing is given out.");
        GuardHeap x = new GuardHeap(64, 8, 3000);
        int[] counts = {1, 0, 0, 0, 0, 0, 0, 0, 0, 0, 0, 0, 1, 0, 64, 8, 3000};
        for (int what = 0; what < counts.length; what++) {
            DUE.is("count(" + what + ")", x.count(what), counts[what]);
        }
        for (int a = -1; a <= 64; a++) {
            DUE.is("check(" + a + ")", x.check(a), 3);
            DUE.is("freeMany(" + a + ")", x.freeMany(a), 0);
        }
        DUE.is("waiting(0)", x.waiting(0), GuardHeap.NONE);
        DUE.is("leak(0, 0)", x.leak(0, 0), GuardHeap.NONE);
        DUE.is("pointers()", x.pointers(), 0);
        DUE.is("leakScan()", x.leakScan(), 0);
        DUE.throwsNoSuchElement("describe(1, 0)", () -> x.describe(1, 0));
        DUE.throwsNoSuchElement("fault(0, 0)", () -> x.fault(0, 0));
    }
}
