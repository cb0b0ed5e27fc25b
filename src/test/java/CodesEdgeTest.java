/** The edges of topics and filters, sentence by sentence, and those of promise 17. */
public final class CodesEdgeTest {
    private static final Due DUE = new Due("CodesEdgeTest");
    private static final int ERR_ARG = PubSubBroker.ERR_ARG;
    private static final int[] OUTSIDE = {-1, -15, -4095, -4096, 1 - 4096, 4096, 4097, 4096 + 15, 8193, 65537,
        Integer.MIN_VALUE, Integer.MIN_VALUE + 1, Integer.MAX_VALUE};

    public static void main(String[] args) {
        DUE.sentence("A code t is usable only if 0 <= t <= 4095.", CodesEdgeTest::usableCodes);
        DUE.sentence("It has three levels: L1 = t & 15, L2 = (t >> 4) & 15, L3 = (t >> 8) & 15.",
                CodesEdgeTest::threeLevels);
        DUE.sentence("Level value 0 means absent.", CodesEdgeTest::absentLevels);
        DUE.sentence("Values 1..13 are names.", CodesEdgeTest::names);
        DUE.sentence("14 is '+' (exactly one level).", CodesEdgeTest::exactlyOneLevel);
        DUE.sentence("15 is '#' (any number of remaining levels, zero included).", CodesEdgeTest::remainingLevels);
        DUE.sentence("Valid topic: L1 != 0", CodesEdgeTest::topicWithoutFirstLevel);
        DUE.sentence("Valid topic: every level is in 0..13", CodesEdgeTest::topicLevels);
        DUE.sentence("Valid topic: no nonzero level follows a zero level", CodesEdgeTest::topicWithGap);
        DUE.sentence("Valid filter: L1 != 0", CodesEdgeTest::filterWithoutFirstLevel);
        DUE.sentence("Valid filter: no nonzero level follows a zero level", CodesEdgeTest::filterWithGap);
        DUE.sentence("Valid filter: 15 occurs only as the last nonzero level", CodesEdgeTest::filterLevels);
        DUE.sentence("if Fi == 15 the answer is true", CodesEdgeTest::ruleOfAllLevels);
        DUE.sentence("else if Fi == 0 the answer is (Ti == 0)", CodesEdgeTest::ruleOfEndedFilter);
        DUE.sentence("else if Ti == 0 the answer is false", CodesEdgeTest::ruleOfEndedTopic);
        DUE.sentence("else if Fi != 14 and Fi != Ti the answer is false", CodesEdgeTest::ruleOfOtherName);
        DUE.sentence("If all three levels pass, the answer is true.", CodesEdgeTest::ruleOfThreeLevels);
        DUE.sentence("33 is topic 1/2, 225 is filter 1/+, 241 is filter 1/#. Filter 241 also matches topic 1.",
                CodesEdgeTest::examples);
        DUE.sentence("Promise 17: true iff filter is a valid filter, topic is a valid topic, and the filter matches",
                CodesEdgeTest::invalidOnOneSide);
        DUE.sentence("Promise 17: Any code outside 0..4095 or otherwise invalid gives false.",
                CodesEdgeTest::outsideGivesFalse);
        DUE.sentence("Promise 17: Changes nothing.", CodesEdgeTest::matchesChangesNothing);
        DUE.end();
    }

    private static int code(int first, int second, int third) {
        return first + 16 * second + 256 * third;
    }

    private static boolean matches(int filter, int topic) {
        return new PubSubBroker().matches(filter, topic);
    }

    /** The three ways in which a topic shows to be valid must agree; '#' matches every topic. */
    private static void topic(int topic, boolean valid) {
        PubSubBroker x = new PubSubBroker();
        x.connect(0, true);
        DUE.is("publish of " + topic, x.publish(0, topic, 1, 4), valid ? 1 : ERR_ARG);
        x.toBroker(0);
        DUE.is("retainedSerial of " + topic, x.retainedSerial(topic), valid ? 1 : 0);
        DUE.is("matches of # and " + topic, x.matches(15, topic), valid);
    }

    /** A valid filter can be subscribed to; fitting is a topic that it matches if it is valid. */
    private static void filter(int filter, int fitting, boolean valid) {
        PubSubBroker x = new PubSubBroker();
        x.connect(0, true);
        DUE.is("subscribe of " + filter, x.subscribe(0, filter, 2), valid ? 0 : ERR_ARG);
        DUE.is("subscriptionQos of " + filter, x.subscriptionQos(0, filter), valid ? 2 : -1);
        DUE.is("matches of " + filter + " and " + fitting, x.matches(filter, fitting), valid);
    }

    private static void usableCodes() {
        for (int outside : OUTSIDE) {
            topic(outside, false);
            filter(outside, 1, false);
        }
        topic(0, false);
        filter(0, 1, false);
        topic(1, true);
        filter(1, 1, true);
        topic(3549, true);
        filter(4078, 3549, true);
        topic(4095, false);
        filter(4095, 3549, false);
    }

    private static void threeLevels() {
        for (int place = 0; place < 3; place++) {
            int shifted = 1 << (4 * place);
            int topic = code(5, 5, 5);
            DUE.yes("the same levels", matches(topic, topic));
            DUE.no("another level " + (place + 1), matches(topic + shifted, topic));
            DUE.no("another level " + (place + 1), matches(topic, topic - shifted));
        }
    }

    private static void absentLevels() {
        int[] topics = {code(7, 0, 0), code(7, 7, 0), code(7, 7, 7)};
        for (int filter : topics) {
            for (int topic : topics) {
                DUE.is("filter " + filter + ", topic " + topic, matches(filter, topic), filter == topic);
            }
        }
    }

    private static void names() {
        for (int name = 1; name <= 13; name++) {
            int[] topics = {code(name, 0, 0), code(1, name, 0), code(13, 13, name)};
            for (int topic : topics) {
                topic(topic, true);
                filter(topic, topic, true);
            }
            for (int other = 1; other <= 13; other++) {
                DUE.is("name " + name + " and name " + other, matches(name, other), name == other);
            }
        }
    }

    private static void exactlyOneLevel() {
        for (int name = 1; name <= 13; name++) {
            DUE.yes("+", matches(14, name));
            DUE.yes("1/+", matches(code(1, 14, 0), code(1, name, 0)));
            DUE.yes("1/1/+", matches(code(1, 1, 14), code(1, 1, name)));
        }
        DUE.no("+ and two levels", matches(14, code(1, 1, 0)));
        DUE.no("+ and three levels", matches(14, code(1, 1, 1)));
        DUE.no("1/+ and no second level", matches(code(1, 14, 0), 1));
        DUE.no("1/+ and three levels", matches(code(1, 14, 0), code(1, 1, 1)));
        DUE.no("1/1/+ and no third level", matches(code(1, 1, 14), code(1, 1, 0)));
        DUE.no("1/1/+ and one level", matches(code(1, 1, 14), 1));
    }

    private static void remainingLevels() {
        DUE.yes("# and one level", matches(15, 13));
        DUE.yes("# and two levels", matches(15, code(13, 1, 0)));
        DUE.yes("# and three levels", matches(15, code(13, 1, 13)));
        DUE.yes("2/# and none remaining", matches(code(2, 15, 0), 2));
        DUE.yes("2/# and one remaining", matches(code(2, 15, 0), code(2, 13, 0)));
        DUE.yes("2/# and two remaining", matches(code(2, 15, 0), code(2, 13, 1)));
        DUE.yes("2/3/# and none remaining", matches(code(2, 3, 15), code(2, 3, 0)));
        DUE.yes("2/3/# and one remaining", matches(code(2, 3, 15), code(2, 3, 13)));
        DUE.no("2/3/# and one too few", matches(code(2, 3, 15), 2));
    }

    private static void topicWithoutFirstLevel() {
        topic(code(0, 0, 0), false);
        topic(code(0, 1, 0), false);
        topic(code(0, 1, 1), false);
        topic(code(0, 0, 1), false);
        topic(code(1, 0, 0), true);
    }

    private static void topicLevels() {
        for (int value = 0; value <= 15; value++) {
            topic(code(value, 0, 0), value >= 1 && value <= 13);
            topic(code(1, value, 0), value <= 13);
            topic(code(1, 1, value), value <= 13);
        }
        topic(code(14, 1, 1), false);
        topic(code(15, 1, 1), false);
        topic(code(1, 14, 1), false);
        topic(code(1, 15, 1), false);
    }

    private static void topicWithGap() {
        topic(code(1, 0, 1), false);
        topic(code(13, 0, 13), false);
        topic(code(1, 1, 0), true);
        topic(code(1, 1, 1), true);
    }

    private static void filterWithoutFirstLevel() {
        filter(code(0, 0, 0), 1, false);
        filter(code(0, 15, 0), 1, false);
        filter(code(0, 14, 0), code(1, 1, 0), false);
        filter(code(0, 0, 15), 1, false);
        filter(code(0, 14, 15), code(1, 1, 0), false);
    }

    private static void filterWithGap() {
        int topic = code(1, 1, 1);
        for (int value = 1; value <= 15; value++) {
            filter(code(1, 0, value), topic, false);
            filter(code(14, 0, value), topic, false);
            filter(code(15, 0, value), topic, false);
        }
        filter(code(1, 14, 1), topic, true);
    }

    private static void filterLevels() {
        filter(code(15, 0, 0), 1, true);
        filter(code(1, 15, 0), 1, true);
        filter(code(14, 15, 0), 1, true);
        filter(code(1, 1, 15), code(1, 1, 1), true);
        filter(code(14, 14, 15), code(1, 1, 1), true);
        for (int value = 1; value <= 15; value++) {
            filter(code(15, value, 0), 1, false);
            filter(code(15, value, value), 1, false);
            filter(code(1, 15, value), 1, false);
            filter(code(15, 15, value), 1, false);
        }
    }

    private static void ruleOfAllLevels() {
        DUE.yes("i = 1", matches(15, code(4, 5, 6)));
        DUE.yes("i = 2", matches(code(4, 15, 0), code(4, 5, 6)));
        DUE.yes("i = 2, topic ended", matches(code(4, 15, 0), 4));
        DUE.yes("i = 3", matches(code(4, 5, 15), code(4, 5, 6)));
        DUE.yes("i = 3, topic ended", matches(code(4, 5, 15), code(4, 5, 0)));
        DUE.no("not before the levels above passed", matches(code(4, 15, 0), code(5, 5, 6)));
        DUE.no("not before the levels above passed", matches(code(4, 5, 15), code(4, 6, 6)));
    }

    private static void ruleOfEndedFilter() {
        DUE.yes("i = 2, both ended", matches(4, 4));
        DUE.no("i = 2, topic goes on", matches(4, code(4, 1, 0)));
        DUE.yes("i = 3, both ended", matches(code(4, 5, 0), code(4, 5, 0)));
        DUE.no("i = 3, topic goes on", matches(code(4, 5, 0), code(4, 5, 1)));
    }

    private static void ruleOfEndedTopic() {
        DUE.no("i = 2, a name", matches(code(4, 5, 0), 4));
        DUE.no("i = 2, +", matches(code(4, 14, 0), 4));
        DUE.no("i = 2, + before #", matches(code(4, 14, 15), 4));
        DUE.no("i = 3, a name", matches(code(4, 5, 6), code(4, 5, 0)));
        DUE.no("i = 3, +", matches(code(4, 5, 14), code(4, 5, 0)));
    }

    private static void ruleOfOtherName() {
        DUE.no("i = 1", matches(code(1, 5, 6), code(13, 5, 6)));
        DUE.no("i = 2", matches(code(4, 1, 6), code(4, 13, 6)));
        DUE.no("i = 3", matches(code(4, 5, 1), code(4, 5, 13)));
        DUE.no("i = 3 behind +", matches(code(14, 14, 1), code(4, 5, 13)));
        DUE.yes("+ is no other name", matches(code(14, 14, 13), code(4, 5, 13)));
    }

    private static void ruleOfThreeLevels() {
        DUE.yes("three names", matches(code(4, 5, 6), code(4, 5, 6)));
        DUE.yes("three times +", matches(code(14, 14, 14), code(4, 5, 6)));
        DUE.yes("+ at the end", matches(code(4, 5, 14), code(4, 5, 6)));
    }

    private static void examples() {
        DUE.is("1/2", code(1, 2, 0), 33);
        DUE.is("1/+", code(1, 14, 0), 225);
        DUE.is("1/#", code(1, 15, 0), 241);
        DUE.yes("241 and 1", matches(241, 1));
        DUE.yes("241 and 33", matches(241, 33));
        DUE.yes("225 and 33", matches(225, 33));
        DUE.no("225 and 1", matches(225, 1));
    }

    private static void invalidOnOneSide() {
        DUE.yes("both valid", matches(code(14, 0, 0), 5));
        DUE.no("no valid topic that + would match", matches(14, 14));
        DUE.no("no valid topic that # would match", matches(15, 15));
        DUE.no("no valid topic that # would match", matches(15, code(1, 0, 1)));
        DUE.no("no valid topic that the same filter would match", matches(225, 225));
        DUE.no("no valid filter, # above", matches(code(15, 1, 0), code(1, 1, 0)));
        DUE.no("no valid filter, # above #", matches(code(15, 15, 0), 1));
        DUE.no("no valid filter, the same code", matches(code(1, 0, 1), code(1, 0, 1)));
        DUE.no("neither is valid", matches(0, 0));
    }

    private static void outsideGivesFalse() {
        for (int outside : OUTSIDE) {
            DUE.no("filter " + outside, matches(outside, 1));
            DUE.no("filter " + outside, matches(outside, outside & 4095));
            DUE.no("topic " + outside, matches(15, outside));
            DUE.no("topic " + outside, matches(outside & 4095, outside));
            DUE.no("both " + outside, matches(outside, outside));
        }
    }

    private static void matchesChangesNothing() {
        for (Start start : Start.all()) {
            DUE.changesNothing(start, "matches(241, 1)", x -> x.matches(241, 1), true);
            DUE.changesNothing(start, "matches(1, 33)", x -> x.matches(1, 33), false);
            DUE.changesNothing(start, "matches(4096, -1)", x -> x.matches(4096, -1), false);
            DUE.changesNothing(start, "matches(15, 0)", x -> x.matches(15, 0), false);
        }
    }
}
