/** Promise 3, free: its edges, with those of FREE and RELEASE. */
public final class Promise03FreeTest {
    private static final Due DUE = new Due("Promise 3, free");

    public static void main(String[] args) {
        ofTheFirstAndTheLastBlock();
        ofABlockThatWaits();
        ofAnotherAddress();
        ofABlockThatWent();
        ofAStartThatIsLiveAgain();
        justCap();
        moreThanCap();
        oneBlockMoreThanCap();
        noCap();
        smallNeverJoins();
        edgeOfSmall();
        greatWithNoNeighbour();
        greatWithTheOneAhead();
        greatWithTheOneBehind();
        greatWithBoth();
        greatNotWithTakenOnes();
        greatNotAcrossASmallOne();
        greatAtTop();
        greatAtTopWithTheOneAhead();
        greatAtTheHeapsEnd();
        DUE.end();
    }

    private static void ofTheFirstAndTheLastBlock() {
        DUE.sentence("The LIVE BLOCK with that START is FREED: 0.");
        GuardHeap x = new GuardHeap(65, 1, 3000);
        x.alloc(2);
        x.alloc(58);
        DUE.is("TOP is WORDS", x.count(0), 65);
        DUE.is("free(6), the last one", x.free(6), 0);
        DUE.is("free(2), the first one", x.free(2), 0);
        DUE.is("FREED", x.count(8), 2);
        DUE.is("LIVE", x.count(1), 0);
        DUE.is("their words", x.count(2), 0);
        DUE.is("no FAULT", x.count(13), 0);
    }

    private static void ofABlockThatWaits() {
        DUE.sentence("4: free, resize of the START of a BLOCK that waits");
        for (int p : new int[] {6, 2}) {
            DUE.is("free(" + p + ")", Scene.busy().free(p), 4);
            Scene.onlyFault(DUE, "free(" + p + ")", 4, p, x -> x.free(p));
        }
    }

    private static void ofAnotherAddress() {
        DUE.sentence("5: free, resize of another address");
        // zones, other words of blocks, FREE words, from TOP on, outside
        int[] others = {13, 24, 29, 37, 39, 40, 15, 23, 31, 35, 1, 3, 4, 5, 7, 11, 12, 25, 26, 28, 41, 99, 100, 101, 0, -1, -14};
        for (int p : others) {
            DUE.is("free(" + p + ")", Scene.busy().free(p), 5);
            Scene.onlyFault(DUE, "free(" + p + ")", 5, p, x -> x.free(p));
        }
        for (int p : Due.FAR) {
            DUE.is("free(" + p + ")", Scene.busy().free(p), 5);
            Scene.onlyFault(DUE, "free(" + p + ")", 5, p, x -> x.free(p));
        }
    }

    private static void ofABlockThatWent() {
        DUE.sentence("5: free, resize of another address");
        GuardHeap x = new GuardHeap(100, 1, 4);
        x.alloc(2);
        x.alloc(2);
        x.free(2);
        DUE.is("it waits: free(2)", x.free(2), 4);
        x.free(6);
        DUE.is("it went: free(2)", x.free(2), 5);
        DUE.is("FREED", x.count(8), 2);
    }

    private static void ofAStartThatIsLiveAgain() {
        DUE.sentence("The LIVE BLOCK with that START is FREED: 0.");
        GuardHeap x = new GuardHeap(100, 1, 0);
        x.alloc(2);
        x.free(2);
        DUE.is("alloc(1)", x.alloc(1), 2);
        DUE.is("free(2)", x.free(2), 0);
        DUE.is("free(2) again", x.free(2), 5);
    }

    private static void justCap() {
        DUE.sentence("as long as the CHUNKS of all in it have more than CAP words together");
        GuardHeap x = new GuardHeap(100, 1, 20);
        x.alloc(2);
        x.alloc(5);
        x.alloc(6);
        Scene.free(DUE, x, 2, 6, 14);
        DUE.is("words that wait", x.count(4), 20);
        DUE.is("BLOCKS that wait", x.count(3), 3);
        DUE.is("none went", x.count(9), 0);
        for (int cap = 17; cap < 20; cap++) {
            GuardHeap y = new GuardHeap(100, 1, cap);
            y.alloc(2);
            y.alloc(5);
            y.alloc(6);
            Scene.free(DUE, y, 2, 6, 14);
            DUE.is("CAP " + cap + ": words that wait", y.count(4), 16);
            DUE.is("CAP " + cap + ": waiting(0)", y.waiting(0), 6);
        }
    }

    private static void moreThanCap() {
        DUE.sentence("the one that waits longest goes, as above");
        GuardHeap x = new GuardHeap(100, 1, 12);
        for (int n : new int[] {2, 2, 2, 6, 2}) {
            x.alloc(n);
        }
        Scene.free(DUE, x, 6, 2, 10);
        DUE.is("just CAP", x.count(4), 12);
        Scene.free(DUE, x, 14);
        DUE.is("two went", x.count(9), 2);
        DUE.is("waiting(0)", x.waiting(0), 10);
        DUE.is("waiting(1)", x.waiting(1), 14);
        Scene.chain(DUE, x, 4, 1, 5);
        DUE.is("check(6)", x.check(6), 3);
    }

    private static void oneBlockMoreThanCap() {
        DUE.sentence("as long as the CHUNKS of all in it have more than CAP words together");
        GuardHeap x = new GuardHeap(100, 1, 12);
        x.alloc(2);
        x.alloc(14);
        x.alloc(2);
        Scene.free(DUE, x, 2, 6);
        DUE.is("none waits", x.count(3), 0);
        DUE.is("no words wait", x.count(4), 0);
        DUE.is("both went", x.count(9), 2);
        DUE.is("check(6)", x.check(6), 3);
        DUE.is("free(6) again", x.free(6), 5);
        Scene.free(DUE, x, 22);
        DUE.is("the next one waits", x.waiting(0), 22);
    }

    private static void noCap() {
        DUE.sentence("as long as the CHUNKS of all in it have more than CAP words together");
        GuardHeap x = new GuardHeap(100, 1, 0);
        x.alloc(1);
        Scene.free(DUE, x, 2);
        DUE.is("none waits", x.waiting(0), GuardHeap.NONE);
        DUE.is("it went", x.count(9), 1);
        Scene.chain(DUE, x, 4, 1);
    }

    private static void smallNeverJoins() {
        DUE.sentence("SMALL: it comes upon its PILE.");
        GuardHeap x = Scene.chunksOf(DUE, 64, 64, 4);
        Scene.free(DUE, x, 66, 130, 2);
        Scene.chain(DUE, x, 64, 1, 65);
        Scene.chain(DUE, x, 4, 129);
        DUE.is("joins", x.count(11), 0);
        DUE.is("TOP", x.count(0), 133);
    }

    private static void edgeOfSmall() {
        DUE.sentence("SMALL are SIZES up to 64, GREAT others.");
        GuardHeap x = Scene.chunksOf(DUE, 64);
        Scene.free(DUE, x, 2);
        DUE.is("64: TOP", x.count(0), 65);
        Scene.chain(DUE, x, 64, 1);
        GuardHeap y = Scene.chunksOf(DUE, 68);
        Scene.free(DUE, y, 2);
        DUE.is("68: TOP", y.count(0), 1);
        Scene.chain(DUE, y, 68);
    }

    private static void greatWithNoNeighbour() {
        DUE.sentence("it becomes one with the FREE GREAT CHUNK that ends where it begins, if there is one");
        GuardHeap x = Scene.chunksOf(DUE, 68, 4, 72, 4, 76, 4);
        Scene.free(DUE, x, 74, 150, 2);
        Scene.chain(DUE, x, 68, 1);
        Scene.chain(DUE, x, 72, 73);
        Scene.chain(DUE, x, 76, 149);
        DUE.is("joins", x.count(11), 0);
        DUE.is("FREE CHUNKS", x.count(5), 3);
        DUE.is("their words", x.count(6), 216);
    }

    private static void greatWithTheOneAhead() {
        DUE.sentence("it becomes one with the FREE GREAT CHUNK that ends where it begins, if there is one");
        GuardHeap x = Scene.chunksOf(DUE, 68, 72, 4);
        Scene.free(DUE, x, 2, 70);
        Scene.chain(DUE, x, 140, 1);
        Scene.chain(DUE, x, 68);
        Scene.chain(DUE, x, 72);
        DUE.is("joins", x.count(11), 1);
        DUE.is("FREE CHUNKS", x.count(5), 1);
        DUE.is("their words", x.count(6), 140);
    }

    private static void greatWithTheOneBehind() {
        DUE.sentence("and with the one that begins where it ends");
        GuardHeap x = Scene.chunksOf(DUE, 68, 72, 4);
        Scene.free(DUE, x, 70, 2);
        Scene.chain(DUE, x, 140, 1);
        Scene.chain(DUE, x, 68);
        Scene.chain(DUE, x, 72);
        DUE.is("joins", x.count(11), 1);
        DUE.is("FREE CHUNKS", x.count(5), 1);
        DUE.is("their words", x.count(6), 140);
    }

    private static void greatWithBoth() {
        DUE.sentence("and with the one that begins where it ends");
        GuardHeap x = Scene.chunksOf(DUE, 68, 72, 76, 4);
        Scene.free(DUE, x, 142, 2, 70);
        Scene.chain(DUE, x, 216, 1);
        DUE.is("joins", x.count(11), 2);
        DUE.is("FREE CHUNKS", x.count(5), 1);
        DUE.is("their words", x.count(6), 216);
    }

    private static void greatNotWithTakenOnes() {
        DUE.sentence("it becomes one with the FREE GREAT CHUNK that ends where it begins, if there is one");
        GuardHeap x = new GuardHeap(400, 1, 76);
        for (int n : new int[] {66, 70, 74, 2}) {
            x.alloc(n);
        }
        // the CHUNK at 69 goes when the one at 141 comes to wait: it stands between taken ones
        Scene.free(DUE, x, 70, 142);
        Scene.chain(DUE, x, 72, 69);
        DUE.is("joins", x.count(11), 0);
        DUE.is("waiting(0)", x.waiting(0), 142);
    }

    private static void greatNotAcrossASmallOne() {
        DUE.sentence("it becomes one with the FREE GREAT CHUNK that ends where it begins, if there is one");
        GuardHeap x = Scene.chunksOf(DUE, 68, 64, 68, 4);
        Scene.free(DUE, x, 2, 70, 134);
        Scene.chain(DUE, x, 68, 1, 133);
        Scene.chain(DUE, x, 64, 69);
        DUE.is("joins", x.count(11), 0);
    }

    private static void greatAtTop() {
        DUE.sentence("if it ends at TOP then, it is no CHUNK any more, and TOP is where it began");
        GuardHeap x = Scene.chunksOf(DUE, 64, 68);
        Scene.free(DUE, x, 66);
        DUE.is("TOP", x.count(0), 65);
        DUE.is("the highest TOP", x.count(12), 133);
        DUE.is("FREE CHUNKS", x.count(5), 0);
        DUE.is("their words", x.count(6), 0);
        DUE.is("joins", x.count(11), 0);
        Scene.free(DUE, x, 2);
        DUE.is("a SMALL one leaves TOP", x.count(0), 65);
    }

    private static void greatAtTopWithTheOneAhead() {
        DUE.sentence("if it ends at TOP then, it is no CHUNK any more, and TOP is where it began");
        GuardHeap x = Scene.chunksOf(DUE, 68, 72, 76);
        Scene.free(DUE, x, 2, 70);
        Scene.chain(DUE, x, 140, 1);
        Scene.free(DUE, x, 142);
        DUE.is("TOP", x.count(0), 1);
        DUE.is("FREE CHUNKS", x.count(5), 0);
        DUE.is("their words", x.count(6), 0);
        DUE.is("joins", x.count(11), 2);
        Scene.chain(DUE, x, 140);
        DUE.is("alloc(2)", x.alloc(2), 2);
    }

    private static void greatAtTheHeapsEnd() {
        DUE.sentence("if it ends at TOP then, it is no CHUNK any more, and TOP is where it began");
        GuardHeap x = new GuardHeap(69, 1, 0);
        DUE.is("all words", x.alloc(66), 2);
        DUE.is("TOP is WORDS", x.count(0), 69);
        Scene.free(DUE, x, 2);
        DUE.is("TOP", x.count(0), 1);
        DUE.is("all words again", x.alloc(66), 2);
        DUE.is("its SERIAL", x.describe(68, 3), 1);
    }
}
