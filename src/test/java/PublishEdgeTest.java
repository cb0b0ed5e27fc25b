import java.util.Set;

/** The edges of promise 6, sentence by sentence. */
public final class PublishEdgeTest {
    private static final Due DUE = new Due("PublishEdgeTest");
    private static final int ERR_CLIENT = PubSubBroker.ERR_CLIENT;
    private static final int ERR_STATE = PubSubBroker.ERR_STATE;
    private static final int ERR_ARG = PubSubBroker.ERR_ARG;
    private static final int ERR_LIMIT = PubSubBroker.ERR_LIMIT;
    private static final int ERR_FULL = PubSubBroker.ERR_FULL;
    private static final int CLIENT_OUT = PubSubBroker.P_CLIENT_OUT;
    private static final int UP = PubSubBroker.P_UP;
    private static final int[] FLAGS = {0, 1, 2, 4, 5, 6};
    private static final int[] WRONG_FLAGS = {3, 7, 8, 9, 12, 16, 260, Integer.MAX_VALUE, -1, -2, -4, -8,
        Integer.MIN_VALUE, Integer.MIN_VALUE + 1};
    /** No first level; a gap; '+'; '#'. */
    private static final int[] WRONG_TOPICS = {0, 16, 256, 272, 257, 3341, 14, 15, 225, 241, 3585 + 16, 4081, 4095};
    private static final int[] TOPICS_OUTSIDE = {-1, -4095, 1 - 4096, Integer.MIN_VALUE, Integer.MIN_VALUE + 1, 4096,
        4097, 65536 + 33, Integer.MAX_VALUE};

    /** Client 0's outbox is full, with entries at both stages; there are serials left. */
    private static final Start FULL_OUTBOX = new Start("a busy broker with a full client outbox", () -> {
        PubSubBroker x = Start.BUSY.make();
        x.publish(0, 2, 1, 1);
        return x;
    });

    public static void main(String[] args) {
        DUE.sentence("Promise 6: q = flags & 3, retain = (flags & 4) != 0", PublishEdgeTest::meaningOfFlags);
        DUE.sentence("Promise 6: flags is valid iff 0 <= flags <= 6 and q != 3.", PublishEdgeTest::wrongFlags);
        DUE.sentence("Promise 6: 1. c not in 0..3: ERR_CLIENT.", PublishEdgeTest::wrongClient);
        DUE.sentence("Promise 6: 2. c's link down: ERR_STATE.", PublishEdgeTest::linkDown);
        DUE.sentence("Promise 6: 3. topic not a valid topic", PublishEdgeTest::wrongTopic);
        DUE.sentence("Promise 6: 3. (including codes outside 0..4095)", PublishEdgeTest::topicOutside);
        DUE.sentence("Promise 6: 4. MAX_PUBS serials already given: ERR_LIMIT.", PublishEdgeTest::limit);
        DUE.sentence("Promise 6: 5. q >= 1 and c's client outbox full (CLIENT_OUT entries): ERR_FULL.",
                PublishEdgeTest::fullOutbox);
        DUE.sentence("Promise 6: tests in order", PublishEdgeTest::orderOfTests);
        DUE.sentence("Promise 6: A refused call changes nothing and uses no serial.", PublishEdgeTest::noSerialUsed);
        DUE.sentence("Promise 6: payload may be any int", PublishEdgeTest::anyPayload);
        DUE.sentence("Promise 6: If q == 0, PUBLISH(0, s, 0, no mark) is put on UP(c).", PublishEdgeTest::qualityZero);
        DUE.sentence("Promise 6: If q >= 1, a new client entry (s, q, no mark, STAGE_PUB) is appended to c's client "
                + "outbox and PUBLISH(its id, s, q, no mark) is put on UP(c).", PublishEdgeTest::withEntry);
        DUE.sentence("Promise 6: If UP(c) already holds WIRE packets the packet is discarded, but s is still given "
                + "and the entry (if any) still made.", PublishEdgeTest::fullWire);
        DUE.sentence("Promise 6: The call itself does not change accepted(s), retained entries, or anything at the "
                + "broker.", PublishEdgeTest::brokerUntouched);
        DUE.end();
    }

    private static void refused(Start start, int c, int topic, int flags, int want) {
        DUE.changesNothing(start, "publish(" + c + ", " + topic + ", 1, " + flags + ")",
                x -> x.publish(c, topic, 1, flags), want);
    }

    private static void meaningOfFlags() {
        for (int flags : FLAGS) {
            PubSubBroker x = new PubSubBroker();
            x.connect(0, true);
            DUE.is("publish with flags " + flags, x.publish(0, 1, 1, flags), 1);
            Moves.up(x, 0);
            DUE.is("quality", Moves.down(x, 0), new String[] {"", "2", "3"}[flags % 4]);
            DUE.is("retained", x.retainedSerial(1), flags / 4);
        }
    }

    private static void wrongFlags() {
        for (int flags : WRONG_FLAGS) {
            refused(Start.BUSY, 0, 1, flags, ERR_ARG);
            refused(Start.BUSY, 1, 3549, flags, ERR_ARG);
            refused(Start.WAITING, 2, 1, flags, ERR_ARG);
        }
    }

    private static void wrongClient() {
        for (Start start : Start.all()) {
            for (int c : Seen.wrongClients()) {
                refused(start, c, 1, 0, ERR_CLIENT);
                refused(start, c, 1, 6, ERR_CLIENT);
            }
        }
    }

    private static void linkDown() {
        for (int flags : FLAGS) {
            for (int c = 0; c < 4; c++) {
                refused(Start.FRESH, c, 1, flags, ERR_STATE);
            }
            refused(Start.BUSY, 2, 1, flags, ERR_STATE);
            refused(Start.BUSY, 3, 1, flags, ERR_STATE);
            refused(Start.FULL_DOWN, 0, 1, flags, ERR_STATE);
        }
    }

    private static void wrongTopic() {
        for (int topic : WRONG_TOPICS) {
            for (int flags : FLAGS) {
                refused(Start.BUSY, 0, topic, flags, ERR_ARG);
            }
        }
    }

    private static void topicOutside() {
        for (int topic : TOPICS_OUTSIDE) {
            refused(Start.BUSY, 0, topic, 0, ERR_ARG);
            refused(Start.BUSY, 1, topic, 6, ERR_ARG);
            refused(Start.WAITING, 3, topic, 4, ERR_ARG);
        }
    }

    private static void limit() {
        PubSubBroker x = new PubSubBroker();
        x.connect(0, true);
        for (int s = 1; s <= 24; s++) {
            DUE.is("publish", Moves.publishThrough(x, 0, 1, 1, s % 3), s);
        }
        for (int flags : FLAGS) {
            DUE.is("one more", x.publish(0, 1, 1, flags), ERR_LIMIT);
            refused(Start.FULL, 0, 1, flags, ERR_LIMIT);
            refused(Start.FULL, 1, 1, flags, ERR_LIMIT);
            refused(Start.WAITING, 2, 33, flags, ERR_LIMIT);
        }
    }

    private static void fullOutbox() {
        DUE.is("the outbox", FULL_OUTBOX.make().pending(0, CLIENT_OUT), 4);
        int[] withEntry = {1, 2, 5, 6};
        for (int flags : withEntry) {
            refused(FULL_OUTBOX, 0, 1, flags, ERR_FULL);
            PubSubBroker x = FULL_OUTBOX.make();
            x.connect(2, true);
            DUE.yes("another client", x.publish(2, 1, 1, flags) > 0);
            DUE.yes("three entries", Start.BUSY.make().publish(0, 1, 1, flags) > 0);
        }
        DUE.yes("quality 0", FULL_OUTBOX.make().publish(0, 1, 1, 0) > 0);
        DUE.yes("quality 0, retained", FULL_OUTBOX.make().publish(0, 1, 1, 4) > 0);
    }

    private static void orderOfTests() {
        refused(Start.FULL, -1, 0, 3, ERR_CLIENT);
        refused(Start.FULL, 4, 1, 1, ERR_CLIENT);
        refused(Start.FULL_DOWN, 0, 0, 0, ERR_STATE);
        refused(Start.FULL_DOWN, 0, 1, 3, ERR_STATE);
        refused(Start.FULL_DOWN, 0, 1, 1, ERR_STATE);
        refused(Start.FULL, 0, 14, 1, ERR_ARG);
        refused(Start.FULL, 0, 1, 7, ERR_ARG);
        refused(Start.FULL, 0, 1, 3, ERR_ARG);
        refused(FULL_OUTBOX, 0, 14, 1, ERR_ARG);
        refused(FULL_OUTBOX, 0, 1, 3, ERR_ARG);
        refused(FULL_OUTBOX, 0, 1, -1, ERR_ARG);
        refused(Start.FULL, 0, 1, 1, ERR_LIMIT);
        refused(Start.FULL, 0, 1, 2, ERR_LIMIT);
    }

    private static void noSerialUsed() {
        PubSubBroker x = FULL_OUTBOX.make();
        int next = FULL_OUTBOX.make().publish(0, 1, 1, 0);
        x.publish(-1, 1, 1, 0);
        x.publish(4, 1, 1, 0);
        x.publish(2, 1, 1, 0);
        x.publish(3, 1, 1, 0);
        x.publish(0, 0, 1, 0);
        x.publish(0, 4096, 1, 0);
        x.publish(0, 1, 1, 3);
        x.publish(0, 1, 1, 7);
        x.publish(0, 1, 1, 1);
        x.publish(0, 1, 1, 2);
        DUE.is("the next serial", x.publish(0, 1, 1, 0), next);
    }

    private static void anyPayload() {
        int[] payloads = {0, 1, -1, Integer.MIN_VALUE, Integer.MAX_VALUE};
        for (int payload : payloads) {
            for (int flags : FLAGS) {
                PubSubBroker x = new PubSubBroker();
                x.connect(0, true);
                x.subscribe(0, 1, 2);
                DUE.is("publish of " + payload, x.publish(0, 1, payload, flags), 1);
                Moves.settle(x);
                DUE.is("received", x.received(0, 1), 1);
                DUE.is("retained", x.retainedSerial(1), payload != 0 && flags >= 4 ? 1 : 0);
            }
        }
    }

    private static void qualityZero() {
        for (int c = 0; c < 4; c++) {
            PubSubBroker x = new PubSubBroker();
            x.connect(c, false);
            int[] before = Seen.all(x);
            x.publish(c, 1, 1, 0);
            DUE.changedAlone("publish", x, before, Set.of("pending(" + c + ", " + UP + ")"));
            DUE.is("up", x.pending(c, UP), 1);
            x.subscribe(c, 1, 2);
            Moves.settle(x);
            DUE.is("no mark", x.received(c, 1), 1);
        }
    }

    private static void withEntry() {
        for (int c = 0; c < 4; c++) {
            PubSubBroker x = new PubSubBroker();
            x.connect(c, false);
            for (int i = 1; i <= 4; i++) {
                int[] before = Seen.all(x);
                x.publish(c, 1, 1, 1 + i % 2);
                DUE.changedAlone("publish", x, before,
                        Set.of("pending(" + c + ", " + UP + ")", "pending(" + c + ", " + CLIENT_OUT + ")"));
                DUE.is("up", x.pending(c, UP), i);
                DUE.is("outbox", x.pending(c, CLIENT_OUT), i);
            }
            x.subscribe(c, 1, 0);
            DUE.is("up", Moves.up(x, c), "1111");
            DUE.is("qualities and ids", Moves.down(x, c), "13121312");
            DUE.is("two ended", x.pending(c, CLIENT_OUT), 2);
            DUE.is("no mark", x.received(c, 1) + x.received(c, 4), 2);
        }
    }

    private static void fullWire() {
        for (int flags : FLAGS) {
            boolean entry = flags % 4 != 0;
            PubSubBroker x = Moves.fullBrokerOutbox(false);
            Moves.down(x, 0);
            for (int s = 2; s <= 17; s++) {
                DUE.is("publish", x.publish(0, 2, 1, 0), s);
            }
            DUE.is("up is full", x.pending(0, UP), 32);
            int[] before = Seen.all(x);
            DUE.is("the serial is given", x.publish(0, 3, 1, flags), 18);
            DUE.changedAlone("publish", x, before, entry ? Set.of("pending(0, " + CLIENT_OUT + ")") : Set.of());
            Moves.settle(x);
            DUE.is("it did not go", x.accepted(18), 0);
            DUE.is("those before it did", x.accepted(17), 1);
            DUE.is("the next serial", x.publish(0, 2, 1, 0), 19);
            x.disconnect(0);
            x.connect(0, false);
            Moves.settle(x);
            DUE.is("the entry is sent again", x.accepted(18), entry ? 1 : 0);
            DUE.is("outbox", x.pending(0, CLIENT_OUT), 0);
        }
    }

    private static void brokerUntouched() {
        for (int flags : FLAGS) {
            for (int payload = 0; payload <= 1; payload++) {
                PubSubBroker x = Start.BUSY.make();
                int[] before = Seen.all(x);
                DUE.yes("publish", x.publish(0, 1, payload, flags) > 0);
                DUE.changedAlone("publish", x, before, flags % 4 == 0 ? Set.of("pending(0, 4)")
                        : Set.of("pending(0, 4)", "pending(0, 0)"));
            }
        }
    }
}
