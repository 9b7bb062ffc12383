/** Promise 2, alloc: its edges, with those of NEEDED, FIND and GIVE. */
public final class Promise02AllocTest {
    private static final Due DUE = new Due("Promise 2, alloc");

    public static void main(String[] args) {
        belowOne();
        fullHeap();
        refusedHasNoSerial();
        firstSerial();
        neededIsTheLeast();
        exactlyToTheEnd();
        tooLargeByFarWrapsNothing();
        wordZeroIsNeverUsed();
        wordsAreZero();
        uppermostOfThePile();
        leastGreaterPile();
        smallAheadOfGreat();
        greatNeverOfAPile();
        greatOfTheLeastSize();
        greatOfTheLeastAddress();
        greatAheadOfTop();
        topHasJustEnough();
        restOfFourWords();
        restAtTheEdgeOfGreat();
        noneGoesWhileThereIsOne();
        longestGoesUntilThereIsOne();
        queueEmptiesInVain();
        waitingJoinUntilThereIsOne();
        DUE.end();
    }

    private static void belowOne() {
        DUE.sentence("0: n is below 1 (nothing changes then)");
        for (int n : new int[] {0, -1, -4, -3000, Integer.MIN_VALUE}) {
            DUE.is("alloc(" + n + ")", Scene.busy().alloc(n), 0);
            Scene.unchanged(DUE, "alloc(" + n + ")", x -> x.alloc(n));
        }
    }

    private static GuardHeap full() {
        GuardHeap x = new GuardHeap(64, 1, 0);
        x.alloc(20);
        x.alloc(34);
        return x;
    }

    private static void fullHeap() {
        DUE.sentence("or there is none");
        GuardHeap x = full();
        DUE.is("TOP", x.count(0), 61);
        for (int n : new int[] {1, 2, 3, 34, 3000}) {
            DUE.is("alloc(" + n + ")", x.alloc(n), 0);
            Scene.unchanged(DUE, "alloc(" + n + ")", Promise02AllocTest::full, y -> y.alloc(n));
        }
        DUE.is("GIVEN", x.count(7), 2);
    }

    private static void refusedHasNoSerial() {
        DUE.sentence("It has a SERIAL: how many BLOCKS were GIVEN ahead of it.");
        GuardHeap x = full();
        x.alloc(0);
        x.alloc(1);
        x.free(26);
        DUE.is("alloc(1)", x.alloc(1), 26);
        DUE.is("its SERIAL", x.describe(26, 3), 2);
    }

    private static void firstSerial() {
        DUE.sentence("It has a SERIAL: how many BLOCKS were GIVEN ahead of it.");
        GuardHeap x = new GuardHeap(100, 1, 0);
        x.alloc(2);
        DUE.is("the first one's SERIAL", x.describe(2, 3), 0);
        x.free(2);
        x.alloc(2);
        DUE.is("the second one's SERIAL", x.describe(2, 3), 1);
    }

    private static int leastOfFour(int words) {
        int size = 4;
        while (size < words) {
            size += 4;
        }
        return size;
    }

    private static void neededIsTheLeast() {
        DUE.sentence("The CHUNK's SIZE must be n + 2 RED at least: the least multiple of 4 that is so is what is NEEDED for n.");
        for (int red = 1; red <= 8; red++) {
            for (int n = 1; n <= 70; n++) {
                GuardHeap x = new GuardHeap(100, red, 0);
                String call = "RED " + red + ": alloc(" + n + ")";
                DUE.is(call, x.alloc(n), 1 + red);
                DUE.is(call + ": its CHUNK", x.describe(1, 2), leastOfFour(n + 2 * red));
                DUE.is(call + ": TOP", x.count(0), 1 + leastOfFour(n + 2 * red));
                DUE.is(call + ": its words", x.describe(1, 1), n);
            }
        }
    }

    private static void exactlyToTheEnd() {
        DUE.sentence("c words from TOP on, if there are so many (TOP is c more then)");
        for (int words = 64; words <= 72; words++) {
            for (int red = 1; red <= 8; red++) {
                int room = (words - 1) / 4 * 4;
                GuardHeap x = new GuardHeap(words, red, 0);
                String heap = words + " words, RED " + red;
                DUE.is(heap + ": one word too many", x.alloc(room - 2 * red + 1), 0);
                DUE.is(heap + ": TOP", x.count(0), 1);
                DUE.is(heap + ": just so many", x.alloc(room - 2 * red), 1 + red);
                DUE.is(heap + ": TOP", x.count(0), 1 + room);
                DUE.is(heap + ": the last word", x.check(words - 1), room == words - 1 ? 2 : 3);
            }
        }
    }

    private static void tooLargeByFarWrapsNothing() {
        DUE.sentence("or there is none");
        for (int red : new int[] {1, 5, 8}) {
            GuardHeap x = new GuardHeap(3000, red, 0);
            for (int less = 0; less <= 24; less++) {
                int n = Integer.MAX_VALUE - less;
                DUE.is("RED " + red + ": alloc(" + n + ")", x.alloc(n), 0);
            }
            for (int n : new int[] {2999, 3000, 3001, 65536, 1 << 29, 1 << 30, (1 << 30) + 2, -1 >>> 2}) {
                DUE.is("RED " + red + ": alloc(" + n + ")", x.alloc(n), 0);
            }
            DUE.is("RED " + red + ": TOP", x.count(0), 1);
            DUE.is("RED " + red + ": GIVEN", x.count(7), 0);
        }
    }

    private static void wordZeroIsNeverUsed() {
        DUE.sentence("word 0 is never used");
        for (int red = 1; red <= 8; red++) {
            GuardHeap x = new GuardHeap(64, red, 0);
            DUE.is("RED " + red + ": the first START", x.alloc(1), 1 + red);
            DUE.is("RED " + red + ": check(0)", x.check(0), 3);
            DUE.is("RED " + red + ": check(1)", x.check(1), 2);
        }
    }

    private static void wordsAreZero() {
        DUE.sentence("All its words are 0.");
        GuardHeap x = new GuardHeap(64, 1, 0);
        x.alloc(58);
        for (int a = 2; a < 60; a++) {
            x.store(a, -a);
        }
        x.free(2);
        int[] starts = {2, 10, 38};
        int[] lengths = {6, 23, 22};
        for (int i = 0; i < 3; i++) {
            DUE.is("alloc(" + lengths[i] + ")", x.alloc(lengths[i]), starts[i]);
            for (int a = starts[i]; a < starts[i] + lengths[i]; a++) {
                DUE.is("load(" + a + ")", x.load(a), 0);
            }
        }
        DUE.is("no FAULT", x.count(13), 0);
    }

    private static void uppermostOfThePile() {
        DUE.sentence("(SMALL c) the uppermost one of the PILE of c");
        for (int size : new int[] {4, 60, 64}) {
            GuardHeap x = Scene.chunksOf(DUE, size, size, size, 4);
            Scene.free(DUE, x, 2 + size, 2 + 2 * size, 2);
            DUE.is(size + ": the latest", x.alloc(size - 2), 2);
            DUE.is(size + ": the second", x.alloc(size - 2), 2 + 2 * size);
            DUE.is(size + ": the first", x.alloc(size - 2), 2 + size);
            DUE.is(size + ": from TOP", x.alloc(size - 2), 6 + 3 * size);
            DUE.is(size + ": no split", x.count(10), 0);
        }
    }

    private static void leastGreaterPile() {
        DUE.sentence("(SMALL c) that of the PILE of the least greater SIZE that has one");
        GuardHeap x = Scene.chunksOf(DUE, 64, 12, 12, 8, 4);
        Scene.free(DUE, x, 2, 66, 78, 90);
        DUE.is("4 words out of 8", x.alloc(2), 90);
        DUE.is("8 words out of the uppermost 12", x.alloc(6), 78);
        DUE.is("12 words: the other 12", x.alloc(10), 66);
        DUE.is("60 words out of 64", x.alloc(58), 2);
        DUE.is("splits", x.count(10), 3);
        Scene.chain(DUE, x, 4, 61, 85, 93);
    }

    private static void smallAheadOfGreat() {
        DUE.sentence("(SMALL c) that of the PILE of the least greater SIZE that has one");
        GuardHeap x = Scene.chunksOf(DUE, 68, 4, 64, 4);
        Scene.free(DUE, x, 2, 74);
        DUE.is("60 words out of 64", x.alloc(58), 74);
        DUE.is("64 words out of 68", x.alloc(62), 2);
        Scene.chain(DUE, x, 4, 65, 133);
    }

    private static void greatNeverOfAPile() {
        DUE.sentence("the FREE GREAT CHUNK of the least SIZE that is c at least");
        GuardHeap x = Scene.chunksOf(DUE, 64, 64, 4, 68, 4);
        Scene.free(DUE, x, 2, 66, 134);
        DUE.is("68 words", x.alloc(63), 134);
        DUE.is("68 words again, from TOP", x.alloc(66), 206);
        Scene.chain(DUE, x, 64, 65, 1);
    }

    private static void greatOfTheLeastSize() {
        DUE.sentence("the FREE GREAT CHUNK of the least SIZE that is c at least");
        GuardHeap x = Scene.chunksOf(DUE, 76, 4, 68, 4, 72, 4);
        Scene.free(DUE, x, 2, 82, 154);
        DUE.is("72 words: just 72", x.alloc(70), 154);
        DUE.is("72 words: out of 76", x.alloc(70), 2);
        DUE.is("72 words: 68 are too few, from TOP", x.alloc(70), 230);
        DUE.is("68 words: just 68", x.alloc(66), 82);
        DUE.is("splits", x.count(10), 1);
    }

    private static void greatOfTheLeastAddress() {
        DUE.sentence("of several the one with the least address");
        GuardHeap x = Scene.chunksOf(DUE, 80, 4, 80, 4, 80, 4);
        Scene.free(DUE, x, 86, 2, 170);
        DUE.is("the first", x.alloc(78), 2);
        DUE.is("the second, not whole", x.alloc(60), 86);
        DUE.is("the third", x.alloc(78), 170);
    }

    private static void greatAheadOfTop() {
        DUE.sentence("To FIND a CHUNK of SIZE c, the first of these");
        GuardHeap x = Scene.chunksOf(DUE, 2000, 4);
        Scene.free(DUE, x, 2);
        DUE.is("4 words out of 2000", x.alloc(2), 2);
        DUE.is("68 words out of 1996", x.alloc(66), 6);
        DUE.is("TOP stays", x.count(0), 2005);
    }

    private static void topHasJustEnough() {
        DUE.sentence("c words from TOP on, if there are so many (TOP is c more then)");
        GuardHeap x = new GuardHeap(69, 1, 0);
        DUE.is("alloc(2)", x.alloc(2), 2);
        DUE.is("64 are left, not 68", x.alloc(63), 0);
        DUE.is("just 64 are left", x.alloc(62), 6);
        DUE.is("TOP is WORDS", x.count(0), 69);
        DUE.is("none is left", x.alloc(1), 0);
    }

    private static void restOfFourWords() {
        DUE.sentence("its first c words are the one that is found, the others are a CHUNK that is RELEASED");
        GuardHeap x = Scene.chunksOf(DUE, 8, 4);
        Scene.free(DUE, x, 2);
        DUE.is("alloc(1)", x.alloc(1), 2);
        DUE.is("its CHUNK", x.describe(2, 2), 4);
        Scene.chain(DUE, x, 4, 5);
        Scene.chain(DUE, x, 8);
        DUE.is("splits", x.count(10), 1);
        DUE.is("alloc(2), the rest", x.alloc(2), 6);
        DUE.is("no more splits", x.count(10), 1);
    }

    private static void restAtTheEdgeOfGreat() {
        DUE.sentence("its first c words are the one that is found, the others are a CHUNK that is RELEASED");
        GuardHeap x = Scene.chunksOf(DUE, 136, 4);
        Scene.free(DUE, x, 2);
        DUE.is("72 of 136 words", x.alloc(70), 2);
        Scene.chain(DUE, x, 64, 73);
        Scene.free(DUE, x, 2);
        DUE.is("a rest of 64 is SMALL: joins", x.count(11), 0);
        Scene.chain(DUE, x, 72, 1);
        GuardHeap y = Scene.chunksOf(DUE, 136, 4);
        Scene.free(DUE, y, 2);
        DUE.is("68 of 136 words", y.alloc(66), 2);
        Scene.chain(DUE, y, 68, 69);
        Scene.free(DUE, y, 2);
        DUE.is("a rest of 68 is GREAT: joins", y.count(11), 1);
        Scene.chain(DUE, y, 136, 1);
    }

    /** Three CHUNKS of 20 words in 64, all waiting: 21, then 1, then 41. */
    private static GuardHeap threeWait() {
        GuardHeap x = new GuardHeap(64, 1, 3000);
        x.alloc(18);
        x.alloc(18);
        x.alloc(18);
        x.free(22);
        x.free(2);
        x.free(42);
        return x;
    }

    private static void noneGoesWhileThereIsOne() {
        DUE.sentence("as long as there is none, the BLOCK that waits longest in the QUEUE goes");
        GuardHeap x = new GuardHeap(100, 1, 3000);
        x.alloc(2);
        x.alloc(6);
        x.free(2);
        x.free(6);
        DUE.is("from TOP", x.alloc(2), 14);
        DUE.is("from TOP to the end", x.alloc(78), 18);
        DUE.is("both wait", x.count(3), 2);
        DUE.is("none went", x.count(9), 0);
        DUE.is("the full heap: alloc(2)", x.alloc(2), 2);
        DUE.is("one went", x.count(9), 1);
        DUE.is("alloc(1), 4 words out of 8", x.alloc(1), 6);
        DUE.is("alloc(1), the rest", x.alloc(1), 10);
    }

    private static void longestGoesUntilThereIsOne() {
        DUE.sentence("as long as there is none, the BLOCK that waits longest in the QUEUE goes");
        GuardHeap x = threeWait();
        DUE.is("alloc(17)", x.alloc(17), 22);
        DUE.is("one went", x.count(9), 1);
        DUE.is("waiting(0)", x.waiting(0), 2);
        DUE.is("alloc(18)", x.alloc(18), 2);
        DUE.is("alloc(18)", x.alloc(18), 42);
        DUE.is("three went", x.count(9), 3);
        DUE.is("none waits", x.waiting(0), GuardHeap.NONE);
        DUE.is("alloc(18)", x.alloc(18), 0);
        DUE.is("three went still", x.count(9), 3);
    }

    private static void queueEmptiesInVain() {
        DUE.sentence("if the QUEUE is empty, there is none");
        for (int n : new int[] {19, 58, 3000, Integer.MAX_VALUE}) {
            GuardHeap x = threeWait();
            DUE.is("alloc(" + n + ")", x.alloc(n), 0);
            DUE.is("none waits", x.count(3), 0);
            DUE.is("no words wait", x.count(4), 0);
            DUE.is("three went", x.count(9), 3);
            DUE.is("GIVEN", x.count(7), 3);
            Scene.chain(DUE, x, 20, 41, 1, 21);
        }
    }

    private static void waitingJoinUntilThereIsOne() {
        DUE.sentence("as long as there is none, the BLOCK that waits longest in the QUEUE goes");
        GuardHeap x = new GuardHeap(212, 1, 3000);
        x.alloc(66);
        x.alloc(66);
        x.alloc(66);
        x.free(70);
        x.free(2);
        x.free(138);
        DUE.is("136 words, of two that waited", x.alloc(134), 2);
        DUE.is("joins", x.count(11), 1);
        DUE.is("the third one waits", x.waiting(0), 138);
        GuardHeap y = new GuardHeap(212, 1, 3000);
        y.alloc(66);
        y.alloc(134);
        y.free(2);
        y.free(70);
        DUE.is("all words, by TOP", y.alloc(205), 2);
        DUE.is("TOP", y.count(0), 209);
        DUE.is("both went", y.count(9), 2);
    }
}
