import java.util.NoSuchElementException;

/** Collects the calls of one test whose answers are not the ones that are due. */
final class Due {
    /** Some numbers that no call has a use for. */
    static final int[] FAR = {Integer.MIN_VALUE, Integer.MIN_VALUE + 1, -3001, Integer.MAX_VALUE - 1, Integer.MAX_VALUE};

    private static final long LONGEST_MILLIS = 300_000;

    interface Call {
        int answer();
    }

    private final String test;
    private String sentence = "";
    private int asked;
    private int askedOfSentence;
    private int wrong;

    Due(String test) {
        this.test = test;
        endIfStuck();
    }

    /** What is asked from here on belongs to these words of the document. */
    void sentence(String words) {
        closeSentence();
        sentence = "\"" + words + "\": ";
        askedOfSentence = 0;
    }

    void is(String call, long got, long want) {
        ask();
        if (got != want) {
            report(call + " answered " + got + ", due is " + want);
        }
    }

    void holds(String what, boolean so) {
        ask();
        if (!so) {
            report("not so: " + what);
        }
    }

    void throwsNoSuchElement(String call, Call made) {
        ask();
        try {
            report(call + " answered " + made.answer() + ", due is a NoSuchElementException");
        } catch (NoSuchElementException due) {
            return;
        }
    }

    /** Both texts are of lines; the first one that differs is told. */
    void same(String call, String got, String want) {
        ask();
        String[] g = got.split("\n");
        String[] w = want.split("\n");
        for (int i = 0; i < g.length || i < w.length; i++) {
            String one = i < g.length ? g[i] : "nothing more";
            String other = i < w.length ? w[i] : "nothing more";
            if (!one.equals(other)) {
                report(call + ": seen is " + one + ", due is " + other);
                return;
            }
        }
    }

    private void ask() {
        asked++;
        askedOfSentence++;
    }

    private void report(String text) {
        wrong++;
        if (wrong <= 20) {
            System.out.println(test + ": " + sentence + text);
        }
    }

    private void closeSentence() {
        if (!sentence.isEmpty() && askedOfSentence == 0) {
            report("nothing was asked");
        }
    }

    void end() {
        closeSentence();
        System.out.println(test + ": " + asked + " asked, " + wrong + " wrong");
        if (wrong != 0) {
            System.exit(1);
        }
    }

    /** A call that never ends must fail its test, not hold up all others. */
    private void endIfStuck() {
        Thread watch = new Thread(() -> {
            try {
                Thread.sleep(LONGEST_MILLIS);
            } catch (InterruptedException early) {
                return;
            }
            System.out.println(test + ": " + sentence + "a call does not end");
            Runtime.getRuntime().halt(1);
        });
        watch.setDaemon(true);
        watch.start();
    }
}
