import java.util.Arrays;

/** Compares answers with those that are due; end() tells the outcome by the exit code. */
final class Due {
    private final String test;
    private int compared = 0;
    private int wrong = 0;

    Due(String test) {
        this.test = test;
    }

    void is(String call, Object got, Object want) {
        compared++;
        if (!got.equals(want)) {
            wrong++;
            System.out.println(test + ": " + call + " answered " + got + ", due is " + want);
        }
    }

    void yes(String call, boolean got) {
        is(call, got, true);
    }

    void no(String call, boolean got) {
        is(call, got, false);
    }

    /** What can be seen of x must still be what was seen before. */
    void unchanged(String call, PubSubBroker x, int[] before) {
        int[] after = Seen.all(x);
        compared++;
        int place = Arrays.mismatch(before, after);
        if (place >= 0) {
            wrong++;
            System.out.println(test + ": " + call + " changed " + Seen.name(place) + " from " + before[place]
                    + " to " + after[place]);
        }
    }

    int wrong() {
        return wrong;
    }

    void end() {
        System.out.println(test + ": " + compared + " compared, " + wrong + " wrong");
        if (wrong != 0 || compared == 0) {
            System.exit(1);
        }
    }
}
