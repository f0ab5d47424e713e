import java.util.NoSuchElementException;

/** Counts the answers that are not the ones that are due. */
final class Due {
    interface Call {
        long answer();
    }

    private int asked = 0;
    private int wrong = 0;

    void is(String call, long got, long want) {
        asked++;
        if (got != want) {
            wrong++;
            System.out.println(call + " answered " + got + ", due is " + want);
        }
    }

    void is(String call, boolean got, boolean want) {
        is(call, got ? 1 : 0, want ? 1 : 0);
    }

    void noSuch(String call, Call made) {
        asked++;
        try {
            long got = made.answer();
            wrong++;
            System.out.println(call + " answered " + got + ", due is NoSuchElementException");
        } catch (NoSuchElementException e) {
            // this is due
        }
    }

    /** The ROW of an object is just these numbers. */
    void row(String call, CoffeeThatSlops x, long... want) {
        is(call + ": numbers of the ROW", x.count(7), want.length);
        for (int i = 0; i < want.length && i < x.count(7); i++) {
            is(call + ": row(" + i + ")", x.row(i), want[i]);
        }
        noSuch(call + ": row(" + want.length + ")", () -> x.row(want.length));
        noSuch(call + ": row(-1)", () -> x.row(-1));
    }

    void end() {
        System.out.println(asked + " answers asked, " + wrong + " not as due");
        if (wrong != 0) {
            System.exit(1);
        }
    }
}
