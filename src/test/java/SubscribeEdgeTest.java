import java.util.Set;

/** The edges of promises 4 and 5, sentence by sentence. */
public final class SubscribeEdgeTest {
    private static final Due DUE = new Due("SubscribeEdgeTest");
    private static final int ERR_CLIENT = PubSubBroker.ERR_CLIENT;
    private static final int ERR_STATE = PubSubBroker.ERR_STATE;
    private static final int ERR_ARG = PubSubBroker.ERR_ARG;
    private static final int ERR_FULL = PubSubBroker.ERR_FULL;
    private static final int BROKER_OUT = PubSubBroker.P_BROKER_OUT;
    private static final int DOWN = PubSubBroker.P_DOWN;
    private static final int OVERFLOW = PubSubBroker.P_OVERFLOW;
    private static final int[] WRONG_QOS = {-1, -2, Integer.MIN_VALUE, 3, 4, 7, Integer.MAX_VALUE};
    /** No first level; a gap; '#' before another level. */
    private static final int[] WRONG_FILTERS = {0, 16, 256, 240, 257, 3585, 4081, 31, 255, 271, 287, 4095, 511};
    private static final int[] FILTERS_OUTSIDE = {-1, -4095, 1 - 4096, Integer.MIN_VALUE, Integer.MIN_VALUE + 1, 4096,
        4097, 4096 + 15, 65536 + 241, Integer.MAX_VALUE};

    public static void main(String[] args) {
        DUE.sentence("Promise 4: 1. c not in 0..3: ERR_CLIENT.", SubscribeEdgeTest::wrongClient);
        DUE.sentence("Promise 4: 2. c's link down: ERR_STATE.", SubscribeEdgeTest::linkDown);
        DUE.sentence("Promise 4: 3. filter not a valid filter", SubscribeEdgeTest::wrongFilter);
        DUE.sentence("Promise 4: 3. (including codes outside 0..4095)", SubscribeEdgeTest::filterOutside);
        DUE.sentence("Promise 4: 3. qos not in 0..2: ERR_ARG.", SubscribeEdgeTest::wrongQos);
        DUE.sentence("Promise 4: 4. filter code not already among c's subscriptions while c has MAX_SUBS "
                + "subscriptions: ERR_FULL.", SubscribeEdgeTest::fullList);
        DUE.sentence("Promise 4: tests in order", SubscribeEdgeTest::orderOfTests);
        DUE.sentence("Promise 4: a subscription with exactly this filter code gets the new qos",
                SubscribeEdgeTest::newQos);
        DUE.sentence("Promise 4: if there is none, (filter, qos) is appended", SubscribeEdgeTest::appended);
        DUE.sentence("Promise 4: for each retained entry in increasing topic code", SubscribeEdgeTest::topicOrder);
        DUE.sentence("Promise 4: whose topic the filter matches", SubscribeEdgeTest::matchingEntries);
        DUE.sentence("Promise 4: SEND(c, its serial, min(q of that serial, qos), retained mark)",
                SubscribeEdgeTest::retainedQuality);
        DUE.sentence("Promise 4: The answer is the number of such retained entries (0 when none match)",
                SubscribeEdgeTest::noneMatch);
        DUE.sentence("Promise 4: counted whether or not each SEND put a packet", SubscribeEdgeTest::countedWithoutPacket);
        DUE.sentence("Promise 4: counted whether or not each SEND made an entry", SubscribeEdgeTest::countedWithoutEntry);
        DUE.sentence("Promise 4: counted whether or not each SEND raised overflow(c)",
                SubscribeEdgeTest::countedWithOverflow);
        DUE.sentence("Promise 5: answers false and changes nothing if c is not in 0..3",
                SubscribeEdgeTest::unsubscribeWrongClient);
        DUE.sentence("Promise 5: c's link is down", SubscribeEdgeTest::unsubscribeLinkDown);
        DUE.sentence("Promise 5: c has no subscription with exactly this code", SubscribeEdgeTest::unsubscribeOther);
        DUE.sentence("Promise 5: Otherwise it removes that subscription, keeping the order of the others",
                SubscribeEdgeTest::unsubscribeEach);
        DUE.sentence("Promise 5: Outboxes, HELD sets, wires and counts are unchanged.",
                SubscribeEdgeTest::unsubscribeLeavesTheRest);
        DUE.end();
    }

    private static void refused(Start start, int c, int filter, int qos, int want) {
        DUE.changesNothing(start, "subscribe(" + c + ", " + filter + ", " + qos + ")",
                x -> x.subscribe(c, filter, qos), want);
    }

    private static void wrongClient() {
        for (Start start : Start.all()) {
            for (int c : Seen.wrongClients()) {
                refused(start, c, 15, 2, ERR_CLIENT);
            }
        }
    }

    private static void linkDown() {
        for (int c = 0; c < 4; c++) {
            refused(Start.FRESH, c, 1, 0, ERR_STATE);
        }
        refused(Start.BUSY, 2, 15, 2, ERR_STATE);
        refused(Start.BUSY, 2, 241, 0, ERR_STATE);
        refused(Start.BUSY, 3, 15, 2, ERR_STATE);
        refused(Start.FULL_DOWN, 0, 15, 2, ERR_STATE);
    }

    private static void wrongFilter() {
        for (int filter : WRONG_FILTERS) {
            for (int qos = 0; qos <= 2; qos++) {
                refused(Start.BUSY, 0, filter, qos, ERR_ARG);
            }
            refused(Start.BUSY, 1, filter, 1, ERR_ARG);
            refused(Start.WAITING, 3, filter, 1, ERR_ARG);
        }
    }

    private static void filterOutside() {
        for (int filter : FILTERS_OUTSIDE) {
            refused(Start.BUSY, 0, filter, 2, ERR_ARG);
            refused(Start.BUSY, 1, filter, 0, ERR_ARG);
            refused(Start.WAITING, 2, filter, 0, ERR_ARG);
        }
    }

    private static void wrongQos() {
        for (int qos : WRONG_QOS) {
            refused(Start.BUSY, 0, 15, qos, ERR_ARG);
            refused(Start.BUSY, 0, 241, qos, ERR_ARG);
            refused(Start.BUSY, 1, 1, qos, ERR_ARG);
            refused(Start.WAITING, 0, 15, qos, ERR_ARG);
        }
        for (int qos = 0; qos <= 2; qos++) {
            PubSubBroker x = new PubSubBroker();
            x.connect(0, true);
            DUE.is("qos " + qos, x.subscribe(0, 1, qos), 0);
            DUE.is("subscriptionQos", x.subscriptionQos(0, 1), qos);
        }
    }

    private static void fullList() {
        int[] others = {1, 3, 14, 33, 4065, 3549};
        for (int filter : others) {
            for (int qos = 0; qos <= 2; qos++) {
                refused(Start.FULL, 0, filter, qos, ERR_FULL);
            }
        }
        int[] present = {15, 241, 225, 2};
        for (int filter : present) {
            PubSubBroker x = Start.FULL.make();
            DUE.yes("a present code is not refused", x.subscribe(0, filter, 1) > 0);
            DUE.is("its qos", x.subscriptionQos(0, filter), 1);
        }
        PubSubBroker y = Start.FULL.make();
        y.unsubscribe(0, 225);
        DUE.is("three and one more", y.subscribe(0, 4, 1), 0);
        DUE.is("four and one more", y.subscribe(0, 5, 1), ERR_FULL);
    }

    private static void orderOfTests() {
        refused(Start.FULL, -1, 0, 3, ERR_CLIENT);
        refused(Start.FULL, 4, 4096, 0, ERR_CLIENT);
        refused(Start.FULL_DOWN, 0, 0, 0, ERR_STATE);
        refused(Start.FULL_DOWN, 0, 1, 3, ERR_STATE);
        refused(Start.FULL_DOWN, 0, 1, 0, ERR_STATE);
        refused(Start.FULL, 0, 31, 0, ERR_ARG);
        refused(Start.FULL, 0, -1, 0, ERR_ARG);
        refused(Start.FULL, 0, 1, 3, ERR_ARG);
        refused(Start.FULL, 0, 1, -1, ERR_ARG);
        refused(Start.FULL, 0, 15, 3, ERR_ARG);
    }

    private static void newQos() {
        for (int place = 0; place < 4; place++) {
            int[] filters = {15, 241, 225, 33};
            PubSubBroker x = new PubSubBroker();
            x.connect(0, true);
            for (int filter : filters) {
                x.subscribe(0, filter, 1);
            }
            int[] before = Seen.all(x);
            DUE.is("subscribe", x.subscribe(0, filters[place], 2), 0);
            DUE.changedAlone("subscribe", x, before, Set.of("subscriptionQos(0, " + filters[place] + ")"));
            DUE.is("greater", x.subscriptionQos(0, filters[place]), 2);
            x.subscribe(0, filters[place], 0);
            DUE.is("smaller", x.subscriptionQos(0, filters[place]), 0);
            DUE.is("no fifth", x.subscribe(0, 1, 0), ERR_FULL);
            DUE.yes("unsubscribe", x.unsubscribe(0, filters[place]));
            DUE.is("it was there once", x.subscriptionQos(0, filters[place]), -1);
        }
    }

    private static void appended() {
        int[] filters = {3549, 4078, 1, 15};
        for (int c = 0; c < 4; c++) {
            PubSubBroker x = new PubSubBroker();
            x.connect(c, true);
            for (int i = 0; i < 4; i++) {
                int[] before = Seen.all(x);
                DUE.is("subscribe", x.subscribe(c, filters[i], i % 3), 0);
                DUE.changedAlone("subscribe", x, before, Set.of("subscriptionQos(" + c + ", " + filters[i] + ")"));
                DUE.is("qos", x.subscriptionQos(c, filters[i]), i % 3);
            }
        }
    }

    /** Made in many orders; the qualities tell the three bits of each topic's rank, and so which packet is which. */
    private static void topicOrder() {
        int[] topics = {1, 2, 13, 33, 49, 545, 801, 3549};
        String[] replies = {"23232323", "22332233", "22223333"};
        int[] steps = {1, 3, 5, 7};
        for (int bit = 0; bit < 3; bit++) {
            for (int step : steps) {
                PubSubBroker x = new PubSubBroker();
                x.connect(0, true);
                for (int i = 0; i < 8; i++) {
                    int rank = (5 + step * i) % 8;
                    Moves.publishThrough(x, 0, topics[rank], 1, (rank >> bit) % 2 == 0 ? 5 : 6);
                }
                DUE.is("subscribe", x.subscribe(0, 15, 2), 8);
                Moves.down(x, 0);
                DUE.is("replies, made in steps of " + step, Moves.up(x, 0), replies[bit]);
            }
        }
    }

    private static void matchingEntries() {
        int[] filters = {1, 14, 15, 225, 241, 33, 238, 46, 3809, 4065, 801, 4};
        int[] matching = {1, 3, 8, 2, 4, 1, 3, 2, 1, 3, 1, 0};
        for (int i = 0; i < filters.length; i++) {
            PubSubBroker x = Start.FULL.make();
            DUE.is("filter " + filters[i], x.subscribe(1, filters[i], 0), matching[i]);
            DUE.is("packets", x.pending(1, DOWN), matching[i]);
        }
    }

    private static void retainedQuality() {
        for (int q = 0; q <= 2; q++) {
            for (int qos = 0; qos <= 2; qos++) {
                PubSubBroker x = new PubSubBroker();
                x.connect(0, true);
                Moves.publishThrough(x, 0, 1, 1, 4 | q);
                x.subscribe(0, 15, 2);
                Moves.settle(x);
                x.subscribe(0, 1, qos);
                DUE.is("entries", x.pending(0, BROKER_OUT), Math.min(q, qos) == 0 ? 0 : 1);
                DUE.is("packet", Moves.down(x, 0), "1");
                DUE.is("quality of " + q + " and " + qos, Moves.up(x, 0), new String[] {"", "2", "3"}[Math.min(q, qos)]);
                DUE.is("marked", x.retainedReceived(0), 2);
                DUE.is("unmarked", x.received(0, 1), 0);
            }
        }
    }

    private static void noneMatch() {
        PubSubBroker x = new PubSubBroker();
        x.connect(0, true);
        DUE.is("no entries", x.subscribe(0, 15, 2), 0);
        PubSubBroker y = Start.FULL.make();
        int[] before = Seen.all(y);
        DUE.is("eight entries, none of them matches", y.subscribe(1, 4, 2), 0);
        DUE.changedAlone("subscribe", y, before, Set.of("subscriptionQos(1, 4)"));
    }

    private static void countedWithoutPacket() {
        PubSubBroker x = Start.FULL.make();
        int[] before = Seen.all(x);
        DUE.is("full wire, quality 0", x.subscribe(0, 15, 0), 8);
        DUE.unchanged("subscribe", x, before);
    }

    private static void countedWithoutEntry() {
        PubSubBroker x = Start.FULL.make();
        DUE.is("quality 0", x.subscribe(1, 15, 0), 8);
        DUE.is("entries", x.pending(1, BROKER_OUT), 0);
        DUE.is("packets", x.pending(1, DOWN), 8);
        PubSubBroker y = new PubSubBroker();
        y.connect(0, false);
        Moves.publishThrough(y, 0, 1, 1, 6);
        for (int i = 0; i < 32; i++) {
            y.subscribe(0, 1, 0);
        }
        DUE.is("an entry without a packet", y.subscribe(0, 1, 2), 1);
        DUE.is("entries", y.pending(0, BROKER_OUT), 1);
        DUE.is("packets", y.pending(0, DOWN), 32);
    }

    private static void countedWithOverflow() {
        PubSubBroker x = Start.FULL.make();
        int[] before = Seen.all(x);
        DUE.is("full outbox", x.subscribe(0, 241, 1), 4);
        DUE.changedAlone("subscribe", x, before, Set.of("pending(0, 6)", "subscriptionQos(0, 241)"));
        DUE.is("overflow", x.pending(0, OVERFLOW), 11);
        PubSubBroker y = Start.FULL.make();
        y.subscribe(1, 15, 2);
        y.subscribe(1, 241, 2);
        y.subscribe(1, 33, 2);
        DUE.is("room for three of eight", y.subscribe(1, 15, 2), 8);
        DUE.is("entries", y.pending(1, BROKER_OUT), 16);
        DUE.is("packets", y.pending(1, DOWN), 16);
        DUE.is("overflow", y.pending(1, OVERFLOW), 5);
    }

    private static void unsubscribe(Start start, int c, int filter) {
        DUE.changesNothing(start, "unsubscribe(" + c + ", " + filter + ")", x -> x.unsubscribe(c, filter), false);
    }

    private static void unsubscribeWrongClient() {
        for (Start start : Start.all()) {
            for (int c : Seen.wrongClients()) {
                unsubscribe(start, c, 241);
            }
        }
    }

    private static void unsubscribeLinkDown() {
        for (int c = 0; c < 4; c++) {
            unsubscribe(Start.FRESH, c, 1);
        }
        unsubscribe(Start.BUSY, 2, 241);
        unsubscribe(Start.BUSY, 2, 225);
        unsubscribe(Start.BUSY, 3, 241);
        unsubscribe(Start.FULL_DOWN, 0, 15);
    }

    private static void unsubscribeOther() {
        int[] others = {1, 33, 14, 4065, 0, 31, -1, 4096, 4096 + 241, 241 - 4096, Integer.MIN_VALUE,
            Integer.MAX_VALUE};
        for (int filter : others) {
            unsubscribe(Start.BUSY, 0, filter);
            unsubscribe(Start.FULL, 0, filter);
            unsubscribe(Start.FULL, 1, filter);
            unsubscribe(Start.WAITING, 0, filter);
        }
        unsubscribe(Start.BUSY, 0, 15);
        unsubscribe(Start.FULL, 1, 15);
        PubSubBroker x = Start.FULL.make();
        DUE.yes("the first time", x.unsubscribe(0, 15));
        DUE.no("the second time", x.unsubscribe(0, 15));
    }

    private static void unsubscribeEach() {
        for (int c = 0; c < 4; c++) {
            for (int gone = 0; gone < 4; gone++) {
                unsubscribeOne(c, gone);
            }
        }
    }

    /** Four subscriptions of each client, so that the lists of the others stand around the one that is changed. */
    private static void unsubscribeOne(int c, int gone) {
        int[] filters = {15, 241, 225, 33};
        PubSubBroker x = new PubSubBroker();
        for (int d = 0; d < 4; d++) {
            x.connect(d, true);
            for (int i = 0; i < 4; i++) {
                x.subscribe(d, filters[i], (d + i) % 3);
            }
        }
        int[] before = Seen.all(x);
        DUE.yes("unsubscribe", x.unsubscribe(c, filters[gone]));
        DUE.changedAlone("unsubscribe", x, before, Set.of("subscriptionQos(" + c + ", " + filters[gone] + ")"));
        DUE.is("it is gone", x.subscriptionQos(c, filters[gone]), -1);
        for (int i = 0; i < 4; i++) {
            DUE.is("unsubscribe " + filters[i], x.unsubscribe(c, filters[i]), i != gone);
        }
        Moves.publishThrough(x, c, 33, 1, 2);
        for (int d = 0; d < 4; d++) {
            DUE.is("received " + d, x.received(d, 1), d == c ? 0 : 1);
        }
    }

    private static void unsubscribeLeavesTheRest() {
        PubSubBroker x = Start.FULL.make();
        int[] before = Seen.all(x);
        DUE.yes("unsubscribe", x.unsubscribe(0, 241));
        DUE.changedAlone("unsubscribe", x, before, Set.of("subscriptionQos(0, 241)"));
        PubSubBroker y = Start.BUSY.make();
        String untouched = Moves.down(y, 0) + " " + Moves.up(y, 0);
        PubSubBroker z = Start.BUSY.make();
        z.unsubscribe(0, 241);
        z.unsubscribe(0, 225);
        DUE.is("what was sent still comes", Moves.down(z, 0) + " " + Moves.up(z, 0), untouched);
    }
}
