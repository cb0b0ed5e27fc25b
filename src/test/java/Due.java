import java.util.Set;
import java.util.function.Function;

/** Compares answers with those that are due; end() tells the outcome by the exit code. */
final class Due {
    private final String test;
    private String sentence = "";
    private int compared = 0;
    private int wrong = 0;

    Due(String test) {
        this.test = test;
    }

    /** Runs the test of one sentence of the document, which is then told with every answer that is not due. */
    void sentence(String words, Runnable sentenceTest) {
        int before = compared;
        sentence = " [" + words + "]";
        try {
            sentenceTest.run();
        } catch (RuntimeException e) {
            fail("a call threw " + e);
        }
        if (compared == before) {
            fail("nothing was compared");
        }
        sentence = "";
    }

    void is(String call, Object got, Object want) {
        compared++;
        if (!got.equals(want)) {
            fail(call + " answered " + got + ", due is " + want);
        }
    }

    void yes(String call, boolean got) {
        is(call, got, true);
    }

    void no(String call, boolean got) {
        is(call, got, false);
    }

    /** The call must answer so on a new object of this start, and nothing that comes after may show that it was made. */
    void changesNothing(Start start, String call, Function<PubSubBroker, Object> made, Object want) {
        is(call + " on " + start, made.apply(start.make()), want);
        is("the answers after " + call + " on " + start, start.difference(made::apply), "");
    }

    /** What can be seen of x must still be what was seen before. */
    void unchanged(String call, PubSubBroker x, int[] before) {
        changedAlone(call, x, before, Set.of());
    }

    /** What can be seen of x must be what was seen before, but for these queries, which must answer otherwise. */
    void changedAlone(String call, PubSubBroker x, int[] before, Set<String> changed) {
        int[] after = Seen.all(x);
        compared++;
        for (int place = 0; place < after.length; place++) {
            boolean same = before[place] == after[place];
            if (same == changed.contains(Seen.name(place))) {
                fail(call + (same ? " left " : " changed ") + Seen.name(place) + " from " + before[place] + " to "
                        + after[place]);
            }
        }
    }

    private void fail(String words) {
        wrong++;
        System.out.println(test + ": " + words + sentence);
    }

    int wrong() {
        return wrong;
    }

    void end() {
        System.out.println(test + ": " + compared + " compared, " + wrong + " wrong");
        if (wrong != 0 || compared == 0) {
            System.exit(1);
        }
    }
}
