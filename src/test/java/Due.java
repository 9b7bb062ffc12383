import java.util.NoSuchElementException;

/** Collects the calls of one test whose answers are not the ones that are due. */
final class Due {
    interface Call {
        int answer();
    }

    private final String test;
    private int asked;
    private int wrong;

    Due(String test) {
        this.test = test;
    }

    void is(String call, long got, long want) {
        asked++;
        if (got != want) {
            report(call + " answered " + got + ", due is " + want);
        }
    }

    void holds(String what, boolean so) {
        asked++;
        if (!so) {
            report("not so: " + what);
        }
    }

    void throwsNoSuchElement(String call, Call made) {
        asked++;
        try {
            report(call + " answered " + made.answer() + ", due is a NoSuchElementException");
        } catch (NoSuchElementException due) {
            return;
        }
    }

    private void report(String text) {
        wrong++;
        if (wrong <= 20) {
            System.out.println(test + ": " + text);
        }
    }

    void end() {
        System.out.println(test + ": " + asked + " asked, " + wrong + " wrong");
        if (wrong != 0) {
            System.exit(1);
        }
    }
}
