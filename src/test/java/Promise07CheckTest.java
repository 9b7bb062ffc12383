/** Promise 7, check: its edges, with those of SORTS. */
public final class Promise07CheckTest {
    private static final Due DUE = new Due("Promise 7, check");

    public static void main(String[] args) {
        everySortOfABusyHeap();
        zonesOfEveryRed();
        outside();
        keepsNoFault();
        wordsGoFromSortToSort();
        fromTopOn();
        lastWords();
        DUE.end();
    }

    private static void sorts(GuardHeap x, String sorts) {
        for (int a = 0; a < sorts.length(); a++) {
            DUE.is("check(" + a + ")", x.check(a), sorts.charAt(a) - '0');
        }
    }

    private static void everySortOfABusyHeap() {
        DUE.sentence("0 OWN: a word of a LIVE BLOCK. 1 LATE: a word of a BLOCK that waits.");
        sorts(Scene.busy(), "3" + "2112" + "21111112" + "200000000002" + "3333" + "20000002" + "2022" + "333");
    }

    private static void zonesOfEveryRed() {
        DUE.sentence("these (RED at least) and the first RED are its ZONE");
        for (int red = 1; red <= 8; red++) {
            for (int n = 1; n <= 5; n++) {
                GuardHeap x = new GuardHeap(100, red, 100);
                x.alloc(n);
                int size = x.describe(1, 2);
                for (int a = 1; a <= size; a++) {
                    int due = a > red && a <= red + n ? 0 : 2;
                    DUE.is("RED " + red + ", " + n + " words: check(" + a + ")", x.check(a), due);
                }
                x.free(1 + red);
                for (int a = 1; a <= size; a++) {
                    int due = a > red && a <= red + n ? 1 : 2;
                    DUE.is("it waits: check(" + a + ")", x.check(a), due);
                }
                DUE.is("behind it", x.check(1 + size), 3);
            }
        }
    }

    private static void outside() {
        DUE.sentence("3 WILD: all else.");
        GuardHeap x = new GuardHeap(65, 1, 0);
        x.alloc(62);
        for (int a : new int[] {0, -1, -2, 65, 66, 67, 68, 69, 3000}) {
            DUE.is("check(" + a + ")", x.check(a), 3);
        }
        for (int a : Due.FAR) {
            DUE.is("check(" + a + ")", x.check(a), 3);
        }
    }

    private static void keepsNoFault() {
        DUE.sentence("The SORT of an address.");
        for (int a : new int[] {14, 13, 6, 5, 0, 25, 41, 100, -1, Integer.MIN_VALUE, Integer.MAX_VALUE}) {
            Scene.unchanged(DUE, "check(" + a + ")", x -> x.check(a));
        }
    }

    private static void wordsGoFromSortToSort() {
        DUE.sentence("The SORT of an address.");
        GuardHeap x = new GuardHeap(100, 2, 8);
        DUE.is("at first: check(3)", x.check(3), 3);
        x.alloc(4);
        sorts(x, "3" + "22000022" + "3");
        x.alloc(1);
        x.free(3);
        sorts(x, "3" + "22111122" + "22022222" + "3");
        x.free(11);
        sorts(x, "3" + "33333333" + "22122222" + "3");
        x.alloc(1);
        sorts(x, "3" + "22022222" + "22122222" + "3");
    }

    private static void fromTopOn() {
        DUE.sentence("From TOP on (at first 1) no word is in a CHUNK.");
        GuardHeap x = new GuardHeap(200, 1, 0);
        x.alloc(2);
        x.alloc(66);
        DUE.is("ahead of TOP: check(72)", x.check(72), 2);
        DUE.is("TOP: check(73)", x.check(73), 3);
        x.free(6);
        DUE.is("TOP went back: check(4)", x.check(4), 2);
        DUE.is("TOP went back: check(5)", x.check(5), 3);
        DUE.is("TOP went back: check(72)", x.check(72), 3);
    }

    private static void lastWords() {
        DUE.sentence("WORDS of the heap have addresses 0 to WORDS - 1");
        for (int words = 64; words <= 68; words++) {
            GuardHeap x = new GuardHeap(words, 1, 0);
            int size = (words - 1) / 4 * 4;
            x.alloc(size - 2);
            DUE.is(words + " words: the last OWN one", x.check(size - 1), 0);
            DUE.is(words + " words: the last one of the ZONE", x.check(size), 2);
            for (int a = size + 1; a <= words + 1; a++) {
                DUE.is(words + " words: check(" + a + ")", x.check(a), 3);
            }
        }
    }
}
