import java.util.regex.Pattern;

/** Promise 17: every pair of codes, and codes outside their range. */
public final class MatchesTest {
    private static final Due DUE = new Due("MatchesTest");

    public static void main(String[] args) {
        examples();
        everyPair();
        outsideTheRange();
        DUE.end();
    }

    private static void examples() {
        PubSubBroker x = new PubSubBroker();
        DUE.yes("1/# and 1", x.matches(241, 1));
        DUE.yes("1/# and 1/2", x.matches(241, 33));
        DUE.yes("1/# and 1/2/3", x.matches(241, 801));
        DUE.yes("1/+ and 1/2", x.matches(225, 33));
        DUE.no("1/+ and 1", x.matches(225, 1));
        DUE.no("1/+ and 1/2/3", x.matches(225, 801));
        DUE.yes("# and 1/2/3", x.matches(15, 801));
        DUE.no("1/+/# and 1", x.matches(4065, 1));
        DUE.yes("1/+/# and 1/2", x.matches(4065, 33));
        DUE.no("a filter is no topic", x.matches(15, 14));
        DUE.no("#/1 is no filter", x.matches(31, 17));
    }

    private static void everyPair() {
        PubSubBroker x = new PubSubBroker();
        String[] paths = new String[4096];
        for (int topic = 0; topic < 4096; topic++) {
            paths[topic] = Codes.isTopic(topic) ? Codes.path(topic) : null;
        }
        for (int filter = 0; filter < 4096; filter++) {
            Pattern pattern = Codes.isFilter(filter) ? Codes.pattern(filter) : null;
            int wrong = 0;
            for (int topic = 0; topic < 4096; topic++) {
                boolean due = pattern != null && paths[topic] != null && pattern.matcher(paths[topic]).matches();
                wrong += x.matches(filter, topic) == due ? 0 : 1;
            }
            DUE.is("topics with a wrong answer for filter " + filter, wrong, 0);
        }
        DUE.unchanged("matches", x, Seen.all(new PubSubBroker()));
    }

    private static void outsideTheRange() {
        PubSubBroker x = new PubSubBroker();
        int[] codes = {-1, -4096, -4095, 4096, 4097, 4111, 8193, Integer.MIN_VALUE, Integer.MIN_VALUE + 1,
            Integer.MAX_VALUE};
        for (int code : codes) {
            DUE.no("filter " + code, x.matches(code, 1));
            DUE.no("topic " + code, x.matches(15, code));
            DUE.no("both " + code, x.matches(code, code));
        }
    }
}
