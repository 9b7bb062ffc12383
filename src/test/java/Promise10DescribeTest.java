/** Promise 10, describe: its edges. */
public final class Promise10DescribeTest {
    private static final Due DUE = new Due("Promise 10, describe");
    private static final int[] NO_BLOCK = {0, 25, 26, 28, 41, 42, 99, 100, 101, -1, -14, Integer.MIN_VALUE, Integer.MAX_VALUE};
    private static final int[] NO_WHAT = {-1, 6, 7, Integer.MIN_VALUE, Integer.MAX_VALUE};

    public static void main(String[] args) {
        firstAndLastWordOfTheChunk();
        chunksSideBySide();
        aBlockThatWaits();
        lessItsStart();
        anotherWhat();
        anotherWhatOfNoBlock();
        noSuchBlock();
        wordsOfGreatFreeChunks();
        theHeapsLastWord();
        changesNothing();
        DUE.end();
    }

    private static void all(GuardHeap x, int a, int... due) {
        for (int what = 0; what < due.length; what++) {
            DUE.is("describe(" + a + ", " + what + ")", x.describe(a, what), due[what]);
        }
    }

    private static void firstAndLastWordOfTheChunk() {
        DUE.sentence("Of the BLOCK (LIVE or waiting) in whose CHUNK an address lies");
        GuardHeap x = Scene.busy();
        all(x, 13, 14, 10, 12, 2, 1, -1);
        all(x, 14, 14, 10, 12, 2, 1, 0);
        all(x, 23, 14, 10, 12, 2, 1, 9);
        all(x, 24, 14, 10, 12, 2, 1, 10);
    }

    private static void chunksSideBySide() {
        DUE.sentence("Of the BLOCK (LIVE or waiting) in whose CHUNK an address lies");
        GuardHeap x = Scene.busy();
        all(x, 36, 30, 6, 8, 4, 1, 6);
        all(x, 37, 38, 1, 4, 5, 1, -1);
        all(x, 40, 38, 1, 4, 5, 1, 2);
    }

    private static void aBlockThatWaits() {
        DUE.sentence("4: whether it is LIVE (1)");
        GuardHeap x = Scene.busy();
        all(x, 4, 2, 2, 4, 0, 0, 2);
        all(x, 5, 6, 6, 8, 1, 0, -1);
        all(x, 6, 6, 6, 8, 1, 0, 0);
        all(x, 12, 6, 6, 8, 1, 0, 6);
        all(x, 13, 14, 10, 12, 2, 1, -1);
    }

    private static void lessItsStart() {
        DUE.sentence("5: the address less its START");
        for (int red = 1; red <= 8; red++) {
            GuardHeap x = new GuardHeap(100, red, 0);
            x.alloc(1);
            int size = x.describe(1, 2);
            DUE.is("RED " + red + ": the first word", x.describe(1, 5), -red);
            DUE.is("RED " + red + ": its START", x.describe(1 + red, 5), 0);
            DUE.is("RED " + red + ": the last word", x.describe(size, 5), size - 1 - red);
        }
    }

    private static void anotherWhat() {
        DUE.sentence("NONE for another what.");
        GuardHeap x = Scene.busy();
        for (int what : NO_WHAT) {
            for (int a : new int[] {14, 13, 24, 6, 5}) {
                DUE.is("describe(" + a + ", " + what + ")", x.describe(a, what), GuardHeap.NONE);
            }
        }
    }

    private static void anotherWhatOfNoBlock() {
        DUE.sentence("NoSuchElementException: there is none such (asked behind that).");
        GuardHeap x = Scene.busy();
        for (int what : NO_WHAT) {
            for (int a : NO_BLOCK) {
                DUE.is("describe(" + a + ", " + what + ")", x.describe(a, what), GuardHeap.NONE);
            }
        }
    }

    private static void noSuchBlock() {
        DUE.sentence("NoSuchElementException: there is none such (asked behind that).");
        GuardHeap x = Scene.busy();
        for (int what = 0; what <= 5; what++) {
            for (int a : NO_BLOCK) {
                int w = what;
                DUE.throwsNoSuchElement("describe(" + a + ", " + w + ")", () -> x.describe(a, w));
            }
        }
        GuardHeap empty = new GuardHeap(64, 1, 0);
        DUE.throwsNoSuchElement("the new heap: describe(1, 0)", () -> empty.describe(1, 0));
    }

    private static void wordsOfGreatFreeChunks() {
        DUE.sentence("NoSuchElementException: there is none such (asked behind that).");
        GuardHeap x = Scene.chunksOf(DUE, 68, 4, 68);
        Scene.free(DUE, x, 2, 74);
        for (int a : new int[] {1, 2, 68, 73, 74, 140, 141}) {
            DUE.throwsNoSuchElement("describe(" + a + ", 4)", () -> x.describe(a, 4));
        }
        all(x, 69, 70, 2, 4, 1, 1, -1);
        all(x, 72, 70, 2, 4, 1, 1, 2);
    }

    private static void theHeapsLastWord() {
        DUE.sentence("Of the BLOCK (LIVE or waiting) in whose CHUNK an address lies");
        GuardHeap x = new GuardHeap(65, 1, 0);
        x.alloc(62);
        all(x, 64, 2, 62, 64, 0, 1, 62);
        DUE.throwsNoSuchElement("describe(65, 0)", () -> x.describe(65, 0));
        DUE.throwsNoSuchElement("describe(0, 0)", () -> x.describe(0, 0));
    }

    private static void changesNothing() {
        DUE.sentence("NoSuchElementException: there is none such (asked behind that).");
        Scene.unchanged(DUE, "describe", x -> {
            for (int what = -1; what <= 6; what++) {
                int w = what;
                x.describe(14, w);
                x.describe(6, w);
                if (w >= 0 && w <= 5) {
                    DUE.throwsNoSuchElement("describe(41, " + w + ")", () -> x.describe(41, w));
                }
            }
        });
    }
}
