/** Promise 14, pointers: its edges. */
public final class Promise14PointersTest {
    private static final Due DUE = new Due("Promise 14, pointers");

    public static void main(String[] args) {
        none();
        everyRootCounts();
        everyWordCounts();
        besideTheWords();
        toItself();
        fromAndToWaitingBlocks();
        leftWordsDoNotCount();
        lostOrNot();
        changesNothing();
        DUE.end();
    }

    private static GuardHeap sixAndThree() {
        GuardHeap x = new GuardHeap(100, 1, 100);
        x.alloc(6);
        x.alloc(3);
        return x;
    }

    private static void none() {
        DUE.sentence("How many of all words in LIVE BLOCKS are numbers that LEAD to a LIVE BLOCK, and ROOTS that do.");
        GuardHeap x = new GuardHeap(64, 1, 3000);
        DUE.is("the new heap", x.pointers(), 0);
        x.alloc(58);
        DUE.is("words of 0", x.pointers(), 0);
        x.setRoot(0, 2);
        x.store(2, 2);
        DUE.is("a word and a ROOT", x.pointers(), 2);
        x.free(2);
        DUE.is("no LIVE BLOCK", x.pointers(), 0);
    }

    private static void everyRootCounts() {
        DUE.sentence("How many of all words in LIVE BLOCKS are numbers that LEAD to a LIVE BLOCK, and ROOTS that do.");
        GuardHeap x = sixAndThree();
        for (int r = 0; r < 16; r++) {
            x.setRoot(r, 7);
            DUE.is("ROOTS 0 to " + r, x.pointers(), r + 1);
        }
        x.setRoot(16, 7);
        DUE.is("no ROOT 16", x.pointers(), 16);
    }

    private static void everyWordCounts() {
        DUE.sentence("How many of all words in LIVE BLOCKS are numbers that LEAD to a LIVE BLOCK, and ROOTS that do.");
        GuardHeap x = sixAndThree();
        int many = 0;
        for (int a : new int[] {2, 3, 4, 5, 6, 7, 10, 11, 12}) {
            x.store(a, 12);
            many++;
            DUE.is("words up to " + a, x.pointers(), many);
        }
    }

    private static void besideTheWords() {
        DUE.sentence("A number LEADS to a LIVE BLOCK if it is the address of a word of it.");
        GuardHeap x = sixAndThree();
        for (int number = -1; number <= 20; number++) {
            int due = number >= 2 && number <= 7 || number >= 10 && number <= 12 ? 1 : 0;
            x.store(2, number);
            DUE.is("word 2 is " + number, x.pointers(), due);
            x.store(2, 0);
            x.setRoot(0, number);
            DUE.is("ROOT 0 is " + number, x.pointers(), due);
            x.setRoot(0, 0);
        }
        for (int number : Due.FAR) {
            x.store(2, number);
            x.setRoot(0, number);
            DUE.is("word 2 and ROOT 0 are " + number, x.pointers(), 0);
        }
    }

    private static void toItself() {
        DUE.sentence("How many of all words in LIVE BLOCKS are numbers that LEAD to a LIVE BLOCK, and ROOTS that do.");
        GuardHeap x = sixAndThree();
        x.store(2, 2);
        x.store(3, 2);
        DUE.is("two words to their own BLOCK", x.pointers(), 2);
    }

    private static void fromAndToWaitingBlocks() {
        DUE.sentence("How many of all words in LIVE BLOCKS are numbers that LEAD to a LIVE BLOCK, and ROOTS that do.");
        GuardHeap x = sixAndThree();
        x.store(2, 10);
        x.store(3, 2);
        x.store(10, 2);
        x.store(11, 11);
        x.setRoot(0, 10);
        x.setRoot(1, 2);
        DUE.is("both LIVE", x.pointers(), 6);
        x.free(10);
        DUE.is("one waits", x.pointers(), 2);
        x.alloc(3000);
        DUE.is("it went", x.pointers(), 2);
    }

    private static void leftWordsDoNotCount() {
        DUE.sentence("How many of all words in LIVE BLOCKS are numbers that LEAD to a LIVE BLOCK, and ROOTS that do.");
        GuardHeap x = Scene.leftInZones();
        DUE.is("words of ZONES", x.pointers(), 0);
        x.store(10, 14);
        DUE.is("a word of the BLOCK", x.pointers(), 1);
        x.free(6);
        DUE.is("FREE words", x.pointers(), 0);
    }

    private static void lostOrNot() {
        DUE.sentence("How many of all words in LIVE BLOCKS are numbers that LEAD to a LIVE BLOCK, and ROOTS that do.");
        GuardHeap x = Scene.busy();
        DUE.is("a ROOT, a word that is REACHED, one that is LOST", x.pointers(), 3);
    }

    private static void changesNothing() {
        DUE.sentence("How many of all words in LIVE BLOCKS are numbers that LEAD to a LIVE BLOCK, and ROOTS that do.");
        Scene.unchanged(DUE, "pointers()", x -> x.pointers());
    }
}
