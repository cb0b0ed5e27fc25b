import java.util.function.BiConsumer;

/** The edges of promises 9 to 16, sentence by sentence. */
public final class QueriesEdgeTest {
    private static final Due DUE = new Due("QueriesEdgeTest");
    private static final int[] WRONG_SERIALS = {0, -1, -24, Integer.MIN_VALUE, 25, 26, 100, Integer.MAX_VALUE};
    private static final int[] WRONG_SELECTORS = {-1, -6, Integer.MIN_VALUE, 7, 8, 100, Integer.MAX_VALUE};
    private static final int[] CODES = {-1, 0, 1, 2, 14, 15, 33, 225, 241, 257, 4095, 4096, 4097, 241 - 4096, 4096 + 241,
        Integer.MIN_VALUE, Integer.MAX_VALUE};

    private static final int[] ARGUMENTS = {Integer.MIN_VALUE, -1, 0, 1, 2, 3, 4, 5, 6, 7, 8, 9, 10, 11, 12, 13, 14, 15,
        16, 17, 18, 19, 20, 21, 22, 23, 24, 25, 33, 225, 241, 801, 4095, 4096, Integer.MAX_VALUE};

    private static final int[][] PAIRS = {{0, 0}, {0, 1}, {0, 2}, {0, 3}, {0, 4}, {0, 5}, {0, 6}, {0, 7}, {1, 1}, {2, 225},
        {3, 24}, {33, 1}, {-1, 0}, {4, 25}};

    public static void main(String[] args) {
        DUE.sentence("Promise 9: answers -1 if c is not in 0..3", QueriesEdgeTest::receivedWrongClient);
        DUE.sentence("Promise 9: or s is not in 1..MAX_PUBS", QueriesEdgeTest::receivedWrongSerial);
        DUE.sentence("Promise 9: which is 0 for a serial not yet given", QueriesEdgeTest::receivedNotGiven);
        DUE.sentence("Promise 10: answers -1 if c is not in 0..3", QueriesEdgeTest::retainedReceivedWrongClient);
        DUE.sentence("Promise 10: otherwise retainedReceived(c)", QueriesEdgeTest::retainedReceivedCounts);
        DUE.sentence("Promise 11: answers -1 if s is not in 1..MAX_PUBS", QueriesEdgeTest::acceptedWrongSerial);
        DUE.sentence("Promise 11: 0 for a serial not yet given", QueriesEdgeTest::acceptedNotGiven);
        DUE.sentence("Promise 12: the serial of the retained entry whose topic code equals topic",
                QueriesEdgeTest::retainedSerials);
        DUE.sentence("Promise 12: or 0 if there is none", QueriesEdgeTest::noRetainedSerial);
        DUE.sentence("Promise 12: (so 0 for any code that is not a valid topic)", QueriesEdgeTest::noTopic);
        DUE.sentence("Promise 13: answers -1 if c is not in 0..3", QueriesEdgeTest::stageWrongClient);
        DUE.sentence("Promise 13: or s is not in 1..MAX_PUBS", QueriesEdgeTest::stageWrongSerial);
        DUE.sentence("Promise 13: the stage of the oldest entry of c's broker outbox with serial s",
                QueriesEdgeTest::oldestStage);
        DUE.sentence("Promise 13: and no retained mark", QueriesEdgeTest::stageWithoutMark);
        DUE.sentence("Promise 13: or STAGE_NONE if there is none", QueriesEdgeTest::noStage);
        DUE.sentence("Promise 14: answers -1 if c is not in 0..3", QueriesEdgeTest::pendingWrongClient);
        DUE.sentence("Promise 14: or which is not in 0..6", QueriesEdgeTest::pendingWrongSelector);
        DUE.sentence("Promise 14: Otherwise, by which (empty)", QueriesEdgeTest::pendingEmpty);
        DUE.sentence("Promise 14: Otherwise, by which (full)", QueriesEdgeTest::pendingFull);
        DUE.sentence("Promise 15: answers -1 if c is not in 0..3", QueriesEdgeTest::qosWrongClient);
        DUE.sentence("Promise 15: or c has no subscription with exactly this filter code", QueriesEdgeTest::noQos);
        DUE.sentence("Promise 15: otherwise that subscription's qos", QueriesEdgeTest::qosOfEach);
        DUE.sentence("Promise 16: answers -1 if c is not in 0..3", QueriesEdgeTest::statusWrongClient);
        DUE.sentence("Promise 16: ST_CONNECTED if the link is up; ST_SESSION if a session is present; ST_PERSISTENT "
                + "if a present session is persistent", QueriesEdgeTest::statusSums);
        DUE.sentence("Promise 9: Changes nothing.", () -> quiet((x, a) -> x.received(a[0], a[1])));
        DUE.sentence("Promise 10: Changes nothing.", () -> quiet((x, a) -> x.retainedReceived(a[0])));
        DUE.sentence("Promise 11: Changes nothing.", () -> quiet((x, a) -> x.accepted(a[0])));
        DUE.sentence("Promise 12: Changes nothing.", () -> quiet((x, a) -> x.retainedSerial(a[0])));
        DUE.sentence("Promise 13: Changes nothing.", () -> quiet((x, a) -> x.brokerStage(a[0], a[1])));
        DUE.sentence("Promise 14: Changes nothing.", () -> quiet((x, a) -> x.pending(a[0], a[1])));
        DUE.sentence("Promise 15: Changes nothing.", () -> quiet((x, a) -> x.subscriptionQos(a[0], a[1])));
        DUE.sentence("Promise 16: Changes nothing.", () -> quiet((x, a) -> x.status(a[0])));
        DUE.end();
    }

    private static void receivedWrongClient() {
        for (Start start : Start.all()) {
            PubSubBroker x = start.make();
            for (int c : Seen.wrongClients()) {
                for (int s = 0; s <= 25; s++) {
                    DUE.is("received(" + c + ", " + s + ")", x.received(c, s), -1);
                }
            }
        }
    }

    private static void receivedWrongSerial() {
        for (Start start : Start.all()) {
            PubSubBroker x = start.make();
            for (int c = 0; c < 4; c++) {
                for (int s : WRONG_SERIALS) {
                    DUE.is("received(" + c + ", " + s + ")", x.received(c, s), -1);
                }
                DUE.yes("the first serial", x.received(c, 1) >= 0);
                DUE.yes("the last serial", x.received(c, 24) >= 0);
            }
        }
    }

    private static void receivedNotGiven() {
        for (int c = 0; c < 4; c++) {
            PubSubBroker x = new PubSubBroker();
            x.connect(c, true);
            x.subscribe(c, 1, 0);
            for (int given = 1; given <= 24; given++) {
                for (int s = given; s <= 24; s++) {
                    DUE.is("received(" + c + ", " + s + ")", x.received(c, s), 0);
                }
                Moves.publishThrough(x, c, 1, 1, 0);
                DUE.is("received(" + c + ", " + given + ")", x.received(c, given), 1);
            }
        }
    }

    private static void retainedReceivedWrongClient() {
        for (Start start : Start.all()) {
            PubSubBroker x = start.make();
            for (int c : Seen.wrongClients()) {
                DUE.is("retainedReceived(" + c + ")", x.retainedReceived(c), -1);
            }
        }
    }

    private static void retainedReceivedCounts() {
        PubSubBroker x = Start.FULL.make();
        DUE.is("client 0", x.retainedReceived(0), 16);
        DUE.is("client 1", x.retainedReceived(1), 0);
        DUE.is("client 3, without a session", x.retainedReceived(3), 0);
        Moves.down(x, 0);
        DUE.is("client 0, after a full wire", x.retainedReceived(0), 48);
    }

    private static void acceptedWrongSerial() {
        for (Start start : Start.all()) {
            PubSubBroker x = start.make();
            for (int s : WRONG_SERIALS) {
                DUE.is("accepted(" + s + ")", x.accepted(s), -1);
            }
            DUE.yes("the first serial", x.accepted(1) >= 0);
            DUE.yes("the last serial", x.accepted(24) >= 0);
        }
    }

    private static void acceptedNotGiven() {
        PubSubBroker x = new PubSubBroker();
        x.connect(2, true);
        for (int given = 1; given <= 24; given++) {
            for (int s = given; s <= 24; s++) {
                DUE.is("accepted(" + s + ")", x.accepted(s), 0);
            }
            x.publish(2, 1, 1, 0);
            DUE.is("given, not yet accepted", x.accepted(given), 0);
            x.toBroker(2);
            DUE.is("accepted(" + given + ")", x.accepted(given), 1);
        }
    }

    private static void retainedSerials() {
        PubSubBroker x = Start.FULL.make();
        int[] topics = {1, 33, 49, 801, 2, 34, 3, 3549};
        for (int i = 0; i < 8; i++) {
            DUE.is("retainedSerial(" + topics[i] + ")", x.retainedSerial(topics[i]), i + 1);
        }
    }

    private static void noRetainedSerial() {
        PubSubBroker x = Start.FULL.make();
        int[] topics = {4, 12, 13, 17, 35, 817, 545, 3548, 3293};
        for (int topic : topics) {
            DUE.is("retainedSerial(" + topic + ")", x.retainedSerial(topic), 0);
            DUE.is("new: retainedSerial(" + topic + ")", new PubSubBroker().retainedSerial(topic), 0);
        }
    }

    private static void noTopic() {
        PubSubBroker x = Start.FULL.make();
        for (int code = -5000; code <= 10000; code++) {
            if (!Codes.isTopic(code)) {
                DUE.is("retainedSerial(" + code + ")", x.retainedSerial(code), 0);
            }
        }
        DUE.is("the least", x.retainedSerial(Integer.MIN_VALUE), 0);
        DUE.is("the least but one", x.retainedSerial(Integer.MIN_VALUE + 1), 0);
        DUE.is("the greatest", x.retainedSerial(Integer.MAX_VALUE), 0);
    }

    private static void stageWrongClient() {
        for (Start start : Start.all()) {
            PubSubBroker x = start.make();
            for (int c : Seen.wrongClients()) {
                for (int s = 0; s <= 25; s++) {
                    DUE.is("brokerStage(" + c + ", " + s + ")", x.brokerStage(c, s), -1);
                }
            }
        }
    }

    private static void stageWrongSerial() {
        for (Start start : Start.all()) {
            PubSubBroker x = start.make();
            for (int c = 0; c < 4; c++) {
                for (int s : WRONG_SERIALS) {
                    DUE.is("brokerStage(" + c + ", " + s + ")", x.brokerStage(c, s), -1);
                }
                DUE.yes("the first serial", x.brokerStage(c, 1) >= 0);
                DUE.yes("the last serial", x.brokerStage(c, 24) >= 0);
            }
        }
    }

    /**
     * Serial 1 of quality 1 is accepted twice, under qos 1 each time: two entries. The first of them ends while the
     * second stays. Serial 2 of quality 2 is at STAGE_REL behind it.
     */
    private static void oldestStage() {
        PubSubBroker x = new PubSubBroker();
        x.connect(0, false);
        x.connect(1, false);
        x.subscribe(0, 1, 2);
        x.publish(1, 1, 1, 1);
        x.toBroker(1);
        x.disconnect(1);
        x.connect(1, false);
        x.toBroker(1);
        x.publish(1, 1, 1, 2);
        x.toBroker(1);
        DUE.is("two entries and one", x.pending(0, PubSubBroker.P_BROKER_OUT), 3);
        DUE.is("serial 1", x.brokerStage(0, 1), PubSubBroker.STAGE_PUB);
        Moves.down(x, 0);
        x.toBroker(0);
        DUE.is("the first entry ended", x.pending(0, PubSubBroker.P_BROKER_OUT), 2);
        DUE.is("serial 1", x.brokerStage(0, 1), PubSubBroker.STAGE_PUB);
        x.toBroker(0);
        DUE.is("both ended", x.brokerStage(0, 1), PubSubBroker.STAGE_NONE);
        DUE.is("serial 2", x.brokerStage(0, 2), PubSubBroker.STAGE_PUB);
        x.toBroker(0);
        DUE.is("serial 2", x.brokerStage(0, 2), PubSubBroker.STAGE_REL);
        DUE.is("for another client", x.brokerStage(1, 2), PubSubBroker.STAGE_NONE);
    }

    private static void stageWithoutMark() {
        PubSubBroker x = new PubSubBroker();
        x.connect(0, false);
        x.connect(1, true);
        x.subscribe(0, 1, 2);
        x.publish(1, 1, 1, 6);
        Moves.up(x, 1);
        Moves.down(x, 0);
        x.toBroker(0);
        x.subscribe(0, 1, 2);
        DUE.is("the unmarked entry is the older one", x.brokerStage(0, 1), PubSubBroker.STAGE_REL);
        Moves.settle(x);
        x.subscribe(0, 1, 2);
        DUE.is("a marked entry alone", x.pending(0, PubSubBroker.P_BROKER_OUT), 1);
        DUE.is("its stage does not count", x.brokerStage(0, 1), PubSubBroker.STAGE_NONE);
        PubSubBroker y = Start.FULL.make();
        for (int s = 1; s <= 24; s++) {
            DUE.is("sixteen marked entries", y.brokerStage(0, s), PubSubBroker.STAGE_NONE);
        }
        markedEntryIsOlder();
    }

    /** Serial 1 is retained, of quality 1 and accepted twice: its marked entry can stand before an unmarked one. */
    private static void markedEntryIsOlder() {
        PubSubBroker x = new PubSubBroker();
        x.connect(0, false);
        x.connect(1, false);
        x.publish(1, 1, 1, 5);
        x.toBroker(1);
        x.subscribe(0, 1, 1);
        DUE.is("marked", x.brokerStage(0, 1), PubSubBroker.STAGE_NONE);
        x.disconnect(1);
        x.connect(1, false);
        x.toBroker(1);
        DUE.is("and unmarked", x.brokerStage(0, 1), PubSubBroker.STAGE_PUB);
        DUE.is("two entries", x.pending(0, PubSubBroker.P_BROKER_OUT), 2);
        Moves.down(x, 0);
        x.toBroker(0);
        DUE.is("the marked one ended", x.brokerStage(0, 1), PubSubBroker.STAGE_PUB);
        x.toBroker(0);
        DUE.is("both ended", x.brokerStage(0, 1), PubSubBroker.STAGE_NONE);
    }

    private static void noStage() {
        for (int c = 0; c < 4; c++) {
            PubSubBroker x = new PubSubBroker();
            for (int s = 1; s <= 24; s++) {
                DUE.is("without a session", x.brokerStage(c, s), PubSubBroker.STAGE_NONE);
            }
            x.connect(c, true);
            x.subscribe(c, 1, 2);
            x.publish(c, 1, 1, 2);
            DUE.is("not yet accepted", x.brokerStage(c, 1), PubSubBroker.STAGE_NONE);
            x.toBroker(c);
            DUE.is("an entry", x.brokerStage(c, 1), PubSubBroker.STAGE_PUB);
            DUE.is("another serial", x.brokerStage(c, 2), PubSubBroker.STAGE_NONE);
            DUE.is("another client", x.brokerStage((c + 1) % 4, 1), PubSubBroker.STAGE_NONE);
            x.disconnect(c);
            DUE.is("a discarded entry", x.brokerStage(c, 1), PubSubBroker.STAGE_NONE);
        }
    }

    private static void pendingWrongClient() {
        for (Start start : Start.all()) {
            PubSubBroker x = start.make();
            for (int c : Seen.wrongClients()) {
                for (int which = -1; which <= 7; which++) {
                    DUE.is("pending(" + c + ", " + which + ")", x.pending(c, which), -1);
                }
            }
        }
    }

    private static void pendingWrongSelector() {
        for (Start start : Start.all()) {
            PubSubBroker x = start.make();
            for (int c = 0; c < 4; c++) {
                for (int which : WRONG_SELECTORS) {
                    DUE.is("pending(" + c + ", " + which + ")", x.pending(c, which), -1);
                }
            }
        }
    }

    private static void pendingEmpty() {
        PubSubBroker x = new PubSubBroker();
        PubSubBroker y = Start.FULL.make();
        for (int c = 0; c < 4; c++) {
            for (int which = 0; which <= 6; which++) {
                DUE.is("pending(" + c + ", " + which + ")", x.pending(c, which), 0);
                DUE.is("beside a full client, " + c, y.pending(c, which) > 0, c == 0);
            }
        }
    }

    private static void pendingFull() {
        PubSubBroker x = Start.FULL.make();
        DUE.is("client outbox", x.pending(0, PubSubBroker.P_CLIENT_OUT), PubSubBroker.CLIENT_OUT);
        DUE.is("broker outbox", x.pending(0, PubSubBroker.P_BROKER_OUT), PubSubBroker.BROKER_OUT);
        DUE.is("client held", x.pending(0, PubSubBroker.P_CLIENT_HELD), PubSubBroker.BROKER_OUT);
        DUE.is("broker held", x.pending(0, PubSubBroker.P_BROKER_HELD), PubSubBroker.CLIENT_OUT);
        DUE.is("up", x.pending(0, PubSubBroker.P_UP), PubSubBroker.WIRE);
        DUE.is("down", x.pending(0, PubSubBroker.P_DOWN), PubSubBroker.WIRE);
        DUE.is("overflow", x.pending(0, PubSubBroker.P_OVERFLOW), 7);
    }

    private static void qosWrongClient() {
        for (Start start : Start.all()) {
            PubSubBroker x = start.make();
            for (int c : Seen.wrongClients()) {
                for (int filter : CODES) {
                    DUE.is("subscriptionQos(" + c + ", " + filter + ")", x.subscriptionQos(c, filter), -1);
                }
            }
        }
    }

    private static void noQos() {
        PubSubBroker x = Start.BUSY.make();
        for (int c = 0; c < 4; c++) {
            for (int filter : CODES) {
                boolean present = c != 3 && (filter == 225 || filter == 241);
                DUE.is("subscriptionQos(" + c + ", " + filter + ")", x.subscriptionQos(c, filter) >= 0, present);
            }
        }
        x.unsubscribe(0, 225);
        DUE.is("after unsubscribe", x.subscriptionQos(0, 225), -1);
        DUE.is("another client's", x.subscriptionQos(1, 225), 1);
        x.disconnect(1);
        DUE.is("after a clean session", x.subscriptionQos(1, 225), -1);
    }

    private static void qosOfEach() {
        int[] filters = {1, 4078, 15, 3549};
        for (int c = 0; c < 4; c++) {
            PubSubBroker x = new PubSubBroker();
            x.connect(c, false);
            for (int i = 0; i < 4; i++) {
                x.subscribe(c, filters[i], i % 3);
            }
            x.disconnect(c);
            for (int i = 0; i < 4; i++) {
                DUE.is("subscriptionQos(" + c + ", " + filters[i] + ")", x.subscriptionQos(c, filters[i]), i % 3);
            }
        }
    }

    private static void statusWrongClient() {
        for (Start start : Start.all()) {
            PubSubBroker x = start.make();
            for (int c : Seen.wrongClients()) {
                DUE.is("status(" + c + ")", x.status(c), -1);
            }
        }
    }

    private static void statusSums() {
        for (int c = 0; c < 4; c++) {
            PubSubBroker x = new PubSubBroker();
            DUE.is("never connected", x.status(c), 0);
            x.connect(c, true);
            DUE.is("clean, up", x.status(c), 3);
            x.disconnect(c);
            DUE.is("clean, dropped", x.status(c), 0);
            x.connect(c, false);
            DUE.is("persistent, up", x.status(c), 7);
            x.disconnect(c);
            DUE.is("persistent, dropped", x.status(c), 6);
            x.connect(c, true);
            DUE.is("persistent, then clean", x.status(c), 3);
            for (int d = 0; d < 4; d++) {
                DUE.is("the others", x.status(d), d == c ? 3 : 0);
            }
        }
    }

    /** The query with ordinary arguments and with those of the edges; nothing that follows may show it. */
    private static void quiet(BiConsumer<PubSubBroker, int[]> query) {
        for (Start start : Start.all()) {
            DUE.is("the answers after the queries on " + start, start.difference(x -> everyPair(x, query)), "");
            for (int[] pair : PAIRS) {
                DUE.is("the answers after a query of " + pair[0] + ", " + pair[1] + " on " + start,
                        start.difference(x -> query.accept(x, pair)), "");
            }
        }
    }

    private static void everyPair(PubSubBroker x, BiConsumer<PubSubBroker, int[]> query) {
        for (int a : ARGUMENTS) {
            for (int b : ARGUMENTS) {
                query.accept(x, new int[] {a, b});
            }
        }
    }
}
