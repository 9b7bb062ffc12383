/** Promise 13, leak: its edges, with those of HEADS. */
public final class Promise13LeakTest {
    private static final Due DUE = new Due("Promise 13, leak");

    public static void main(String[] args) {
        aheadOfAnyScan();
        noneSuch();
        anotherWhat();
        byAddresses();
        wordsAtTheEdges();
        stayAsTheyWere();
        headsStayAsTheyWere();
        ledByItselfIsAHead();
        aRingHasNoHead();
        twoThatLeadToEachOther();
        ledByAReachedBlock();
        ledByAWaitingBlock();
        ledByAnEarlierLostBlock();
        ledByLeftWords();
        ledByEveryWord();
        changesNothing();
        DUE.end();
    }

    private static GuardHeap pairs(int many) {
        GuardHeap x = new GuardHeap(200, 1, 100);
        for (int i = 0; i < many; i++) {
            x.alloc(2);
        }
        return x;
    }

    private static void heads(GuardHeap x, int... due) {
        DUE.is("leakScan()", x.leakScan(), due.length);
        for (int i = 0; i < due.length; i++) {
            DUE.is("leak(" + i + ", 3)", x.leak(i, 3), due[i]);
        }
    }

    private static void aheadOfAnyScan() {
        DUE.sentence("NONE if there is none such, and for another what.");
        GuardHeap x = pairs(2);
        for (int what = -1; what <= 4; what++) {
            DUE.is("leak(0, " + what + ")", x.leak(0, what), GuardHeap.NONE);
        }
    }

    private static void noneSuch() {
        DUE.sentence("NONE if there is none such, and for another what.");
        GuardHeap x = pairs(3);
        x.leakScan();
        for (int i : new int[] {3, 4, 48, 49, 50, 3000, -1, -2, Integer.MIN_VALUE, Integer.MAX_VALUE}) {
            for (int what = -1; what <= 4; what++) {
                DUE.is("leak(" + i + ", " + what + ")", x.leak(i, what), GuardHeap.NONE);
            }
        }
        DUE.is("leak(2, 0)", x.leak(2, 0), 10);
        DUE.is("leak(0, 0)", x.leak(0, 0), 2);
    }

    private static void anotherWhat() {
        DUE.sentence("NONE if there is none such, and for another what.");
        GuardHeap x = pairs(2);
        x.leakScan();
        for (int what : new int[] {-1, 4, 5, Integer.MIN_VALUE, Integer.MAX_VALUE}) {
            DUE.is("leak(0, " + what + ")", x.leak(0, what), GuardHeap.NONE);
            DUE.is("leak(1, " + what + ")", x.leak(1, what), GuardHeap.NONE);
        }
    }

    private static void byAddresses() {
        DUE.sentence("Of LOST BLOCK i of the latest leakScan(), by addresses");
        GuardHeap x = new GuardHeap(200, 1, 0);
        x.alloc(2);
        x.alloc(2);
        x.alloc(2);
        x.free(2);
        DUE.is("alloc(1) comes to the least address", x.alloc(1), 2);
        DUE.is("leakScan()", x.leakScan(), 3);
        int[] serials = {3, 1, 2};
        for (int i = 0; i < 3; i++) {
            DUE.is("leak(" + i + ", 0)", x.leak(i, 0), 2 + 4 * i);
            DUE.is("leak(" + i + ", 1)", x.leak(i, 1), i == 0 ? 1 : 2);
            DUE.is("leak(" + i + ", 2)", x.leak(i, 2), serials[i]);
        }
    }

    private static void wordsAtTheEdges() {
        DUE.sentence("what 0: its START, 1: its words, 2: its SERIAL");
        GuardHeap x = new GuardHeap(3000, 1, 0);
        x.alloc(2994);
        x.leakScan();
        DUE.is("leak(0, 0)", x.leak(0, 0), 2);
        DUE.is("leak(0, 1)", x.leak(0, 1), 2994);
        DUE.is("leak(0, 2)", x.leak(0, 2), 0);
        DUE.is("leak(0, 3)", x.leak(0, 3), 1);
    }

    private static void stayAsTheyWere() {
        DUE.sentence("Of LOST BLOCK i of the latest leakScan(), by addresses");
        GuardHeap x = new GuardHeap(200, 1, 0);
        x.alloc(2);
        x.alloc(2);
        x.leakScan();
        x.free(2);
        x.alloc(1);
        x.setRoot(0, 6);
        DUE.is("it went: leak(0, 0)", x.leak(0, 0), 2);
        DUE.is("it went: leak(0, 1)", x.leak(0, 1), 2);
        DUE.is("it went: leak(0, 2)", x.leak(0, 2), 0);
        DUE.is("it is REACHED now: leak(1, 0)", x.leak(1, 0), 6);
        DUE.is("a third one: leak(2, 0)", x.leak(2, 0), GuardHeap.NONE);
    }

    private static void headsStayAsTheyWere() {
        DUE.sentence("3: whether it was one of the HEADS (as they were then)");
        GuardHeap x = pairs(3);
        x.store(2, 6);
        heads(x, 1, 0, 1);
        x.store(2, 10);
        x.free(6);
        x.setRoot(0, 2);
        DUE.is("leak(0, 3)", x.leak(0, 3), 1);
        DUE.is("leak(1, 3)", x.leak(1, 3), 0);
        DUE.is("leak(2, 3)", x.leak(2, 3), 1);
        x.setRoot(0, 0);
        heads(x, 1, 0);
    }

    private static void ledByItselfIsAHead() {
        DUE.sentence("HEADS of these those to which no word of another LOST BLOCK LEADS");
        GuardHeap x = pairs(1);
        x.store(2, 3);
        x.store(3, 2);
        heads(x, 1);
    }

    private static void aRingHasNoHead() {
        DUE.sentence("HEADS of these those to which no word of another LOST BLOCK LEADS");
        GuardHeap x = pairs(4);
        x.store(2, 6);
        x.store(6, 10);
        x.store(10, 2);
        heads(x, 0, 0, 0, 1);
        x.store(15, 10);
        heads(x, 0, 0, 0, 1);
    }

    private static void twoThatLeadToEachOther() {
        DUE.sentence("HEADS of these those to which no word of another LOST BLOCK LEADS");
        GuardHeap x = pairs(2);
        x.store(3, 7);
        heads(x, 1, 0);
        x.store(7, 3);
        heads(x, 0, 0);
        x.store(3, 0);
        heads(x, 0, 1);
    }

    private static void ledByAReachedBlock() {
        DUE.sentence("HEADS of these those to which no word of another LOST BLOCK LEADS");
        GuardHeap x = pairs(3);
        x.store(2, 6);
        x.store(6, 2);
        x.store(10, 6);
        heads(x, 0, 0, 1);
        x.setRoot(0, 6);
        heads(x, 1);
        DUE.is("it leads to a REACHED one: leak(0, 0)", x.leak(0, 0), 10);
    }

    private static void ledByAWaitingBlock() {
        DUE.sentence("HEADS of these those to which no word of another LOST BLOCK LEADS");
        GuardHeap x = pairs(2);
        x.store(2, 6);
        heads(x, 1, 0);
        x.free(2);
        heads(x, 1);
    }

    private static void ledByAnEarlierLostBlock() {
        DUE.sentence("HEADS of these those to which no word of another LOST BLOCK LEADS");
        GuardHeap x = pairs(3);
        x.store(6, 2);
        x.store(10, 2);
        heads(x, 0, 1, 1);
        x.free(6);
        x.free(10);
        heads(x, 1);
        DUE.is("leak(0, 0)", x.leak(0, 0), 2);
    }

    private static void ledByLeftWords() {
        DUE.sentence("HEADS of these those to which no word of another LOST BLOCK LEADS");
        heads(Scene.leftInZones(), 1, 1, 1);
    }

    private static void ledByEveryWord() {
        DUE.sentence("HEADS of these those to which no word of another LOST BLOCK LEADS");
        GuardHeap x = new GuardHeap(100, 1, 0);
        x.alloc(6);
        x.alloc(3);
        for (int a = 2; a <= 7; a++) {
            for (int number = 9; number <= 13; number++) {
                x.store(a, number);
                heads(x, 1, number >= 10 && number <= 12 ? 0 : 1);
            }
            x.store(a, 0);
        }
    }

    private static void changesNothing() {
        DUE.sentence("NONE if there is none such, and for another what.");
        Scene.unchanged(DUE, "leak", x -> {
            for (int i = -1; i <= 2; i++) {
                for (int what = -1; what <= 4; what++) {
                    x.leak(i, what);
                }
            }
        });
    }
}
