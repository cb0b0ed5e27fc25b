import java.util.Set;

/** The edges of ACCEPT, SEND and DELIVER, sentence by sentence. */
public final class AcceptEdgeTest {
    private static final Due DUE = new Due("AcceptEdgeTest");
    private static final int BROKER_OUT = PubSubBroker.P_BROKER_OUT;
    private static final int UP = PubSubBroker.P_UP;
    private static final int DOWN = PubSubBroker.P_DOWN;
    private static final int OVERFLOW = PubSubBroker.P_OVERFLOW;
    private static final int[] EIGHT_TOPICS = {5, 801, 33, 1, 3549, 2, 49, 13};

    public static void main(String[] args) {
        DUE.sentence("accepted(s) grows by 1.", AcceptEdgeTest::acceptedGrows);
        DUE.sentence("If s has the retain flag and its payload is 0, the retained entry of its topic is removed",
                AcceptEdgeTest::retainedEntryIsRemoved);
        DUE.sentence("the retained entry of its topic is removed (if any)", AcceptEdgeTest::noneToRemove);
        DUE.sentence("If s has the retain flag and its payload is 0 (no flag)", AcceptEdgeTest::emptyWithoutFlag);
        DUE.sentence("If s has the retain flag and its payload is not 0", AcceptEdgeTest::payloadsThatAreNotZero);
        DUE.sentence("the retained entry of its topic gets serial s", AcceptEdgeTest::retainedEntryIsReplaced);
        DUE.sentence("if there is none and fewer than MAX_RETAINED exist, a new one is made",
                AcceptEdgeTest::eighthIsMade);
        DUE.sentence("otherwise nothing happens", AcceptEdgeTest::ninthIsNotMade);
        DUE.sentence("For d = 0, 1, 2, 3 in order", AcceptEdgeTest::everyClient);
        DUE.sentence("if d has a session", AcceptEdgeTest::withoutSession);
        DUE.sentence("at least one of d's subscriptions matches the topic of s", AcceptEdgeTest::matchingSubscriptions);
        DUE.sentence("min(q of s, greatest qos among d's matching subscriptions)", AcceptEdgeTest::quality);
        DUE.sentence("If e == 0 and d's link is up, PUBLISH(id 0, s, 0, r) is put on DOWN(d).",
                AcceptEdgeTest::qualityZeroNeedsNoEntry);
        DUE.sentence("(If e == 0 and the link is down, nothing happens.)", AcceptEdgeTest::qualityZeroLinkDown);
        DUE.sentence("If e >= 1 and d's broker outbox is full, overflow(d) grows by 1 and nothing else happens. (up)",
                AcceptEdgeTest::fullOutboxLinkUp);
        DUE.sentence("If e >= 1 and d's broker outbox is full, overflow(d) grows by 1 and nothing else happens. (down)",
                AcceptEdgeTest::fullOutboxLinkDown);
        DUE.sentence("If e >= 1 otherwise, a new entry (s, e, r, STAGE_PUB) is appended to d's broker outbox",
                AcceptEdgeTest::sixteenthEntry);
        DUE.sentence("and if d's link is up, PUBLISH(its id, s, e, r) is put on DOWN(d).",
                AcceptEdgeTest::entryWithAndWithoutPacket);
        DUE.sentence("if r, retainedReceived(d) grows by 1", AcceptEdgeTest::markedDelivery);
        DUE.sentence("otherwise received(d, s) grows by 1", AcceptEdgeTest::unmarkedDelivery);
        DUE.end();
    }

    private static void acceptedGrows() {
        PubSubBroker x = new PubSubBroker();
        x.connect(0, false);
        x.publish(0, 1, 1, 0);
        x.publish(0, 1, 1, 1);
        x.publish(0, 1, 1, 2);
        DUE.is("before", accepted(x), "0000");
        x.toBroker(0);
        DUE.is("quality 0", accepted(x), "1000");
        x.toBroker(0);
        DUE.is("quality 1", accepted(x), "1100");
        x.toBroker(0);
        DUE.is("quality 2", accepted(x), "1110");
        for (int times = 2; times <= 5; times++) {
            x.disconnect(0);
            x.connect(0, false);
            Moves.up(x, 0);
            DUE.is("resent", accepted(x), "1" + times + "10");
        }
    }

    private static String accepted(PubSubBroker x) {
        return "" + x.accepted(1) + x.accepted(2) + x.accepted(3) + x.accepted(4);
    }

    /** A broker with the eight entries of EIGHT_TOPICS, serials 1 to 8, made by client 0. */
    private static PubSubBroker eightRetained() {
        PubSubBroker x = new PubSubBroker();
        x.connect(0, true);
        for (int topic : EIGHT_TOPICS) {
            Moves.publishThrough(x, 0, topic, -1, 4);
        }
        return x;
    }

    private static void retainedAre(PubSubBroker x, int place, int serial) {
        for (int i = 0; i < 8; i++) {
            DUE.is("entry of " + EIGHT_TOPICS[i], x.retainedSerial(EIGHT_TOPICS[i]), i == place ? serial : i + 1);
        }
    }

    private static void retainedEntryIsRemoved() {
        for (int flags = 4; flags <= 6; flags++) {
            for (int i = 0; i < 8; i++) {
                PubSubBroker x = eightRetained();
                x.subscribe(0, EIGHT_TOPICS[i], 0);
                Moves.settle(x);
                Moves.publishThrough(x, 0, EIGHT_TOPICS[i], 0, flags);
                retainedAre(x, i, 0);
                DUE.is("it is sent all the same", x.received(0, 9), 1);
                DUE.is("entries left", x.subscribe(0, 15, 0), 7);
                Moves.settle(x);
                Moves.publishThrough(x, 0, 12, 1, flags);
                DUE.is("room for another", x.retainedSerial(12), 10);
                DUE.is("entries", x.subscribe(0, 15, 0), 8);
            }
        }
    }

    private static void noneToRemove() {
        PubSubBroker x = new PubSubBroker();
        x.connect(0, true);
        Moves.publishThrough(x, 0, 1, 0, 4);
        DUE.is("no entries at all", x.subscribe(0, 15, 0), 0);
        DUE.is("accepted", x.accepted(1), 1);
        PubSubBroker y = eightRetained();
        int[] others = {3, 12, 17, 3548};
        for (int topic : others) {
            Moves.publishThrough(y, 0, topic, 0, 4);
            retainedAre(y, -1, 0);
        }
        DUE.is("entries", y.subscribe(0, 15, 0), 8);
    }

    private static void emptyWithoutFlag() {
        for (int flags = 0; flags <= 2; flags++) {
            PubSubBroker x = eightRetained();
            Moves.publishThrough(x, 0, 33, 0, flags);
            retainedAre(x, -1, 0);
            Moves.publishThrough(x, 0, 33, 7, flags);
            retainedAre(x, -1, 0);
        }
    }

    private static void payloadsThatAreNotZero() {
        int[] payloads = {1, -1, 256, 65536, 1 << 24, Integer.MIN_VALUE, Integer.MAX_VALUE};
        for (int payload : payloads) {
            PubSubBroker x = new PubSubBroker();
            x.connect(0, true);
            Moves.publishThrough(x, 0, 1, payload, 4);
            DUE.is("payload " + payload, x.retainedSerial(1), 1);
        }
    }

    private static void retainedEntryIsReplaced() {
        for (int i = 0; i < 8; i++) {
            PubSubBroker x = eightRetained();
            Moves.publishThrough(x, 0, EIGHT_TOPICS[i], 1, 6);
            retainedAre(x, i, 9);
            DUE.is("entries", x.subscribe(0, 15, 0), 8);
        }
        PubSubBroker y = new PubSubBroker();
        y.connect(0, false);
        y.publish(0, 1, 1, 5);
        y.publish(0, 1, 1, 5);
        Moves.up(y, 0);
        y.disconnect(0);
        y.connect(0, false);
        y.toBroker(0);
        DUE.is("an earlier serial that is accepted again", y.retainedSerial(1), 1);
    }

    private static void eighthIsMade() {
        PubSubBroker x = new PubSubBroker();
        x.connect(0, true);
        for (int i = 0; i < 8; i++) {
            DUE.is("not yet", x.retainedSerial(EIGHT_TOPICS[i]), 0);
            Moves.publishThrough(x, 0, EIGHT_TOPICS[i], 1, 4 + i % 3);
            DUE.is("made", x.retainedSerial(EIGHT_TOPICS[i]), i + 1);
            DUE.is("entries", x.subscribe(0, 15, 0), i + 1);
            x.unsubscribe(0, 15);
            Moves.settle(x);
        }
    }

    private static void ninthIsNotMade() {
        int[] others = {12, 3, 17, 3548};
        for (int topic : others) {
            PubSubBroker x = eightRetained();
            x.connect(1, true);
            x.subscribe(1, topic, 2);
            Moves.publishThrough(x, 0, topic, 1, 6);
            DUE.is("no entry of " + topic, x.retainedSerial(topic), 0);
            retainedAre(x, -1, 0);
            DUE.is("accepted", x.accepted(9), 1);
            DUE.is("sent", x.received(1, 9), 1);
            DUE.is("entries", x.subscribe(0, 15, 0), 8);
        }
    }

    private static void everyClient() {
        PubSubBroker x = new PubSubBroker();
        for (int c = 0; c < 4; c++) {
            x.connect(c, c % 2 == 0);
            x.subscribe(c, 1, 1);
        }
        x.publish(3, 1, 1, 2);
        x.toBroker(3);
        for (int c = 0; c < 4; c++) {
            DUE.is("stage " + c, x.brokerStage(c, 1), PubSubBroker.STAGE_PUB);
            DUE.is("down " + c, Moves.down(x, c), c == 3 ? "13" : "1");
            DUE.is("received " + c, x.received(c, 1), 1);
        }
    }

    private static void withoutSession() {
        PubSubBroker x = new PubSubBroker();
        x.connect(0, true);
        x.connect(1, true);
        x.connect(2, false);
        for (int c = 0; c < 3; c++) {
            x.subscribe(c, 15, 2);
        }
        x.disconnect(1);
        x.disconnect(2);
        Moves.publishThrough(x, 0, 1, 1, 2);
        int[] entries = {0, 0, 1, 0};
        for (int c = 0; c < 4; c++) {
            DUE.is("entries of " + c, x.pending(c, BROKER_OUT), entries[c]);
            DUE.is("overflow of " + c, x.pending(c, OVERFLOW), 0);
        }
    }

    private static void matchingSubscriptions() {
        PubSubBroker x = new PubSubBroker();
        for (int c = 0; c < 4; c++) {
            x.connect(c, true);
        }
        int[] others = {1, 34, 801, 3809};
        int[] matching = {33, 225, 241, 15};
        for (int i = 0; i < 4; i++) {
            x.subscribe(1, others[i], 2);
            x.subscribe(2, matching[i], 2);
        }
        x.subscribe(3, 1, 2);
        x.subscribe(3, 34, 2);
        x.subscribe(3, 801, 2);
        x.subscribe(3, 46, 2);
        x.publish(0, 33, 1, 2);
        x.toBroker(0);
        DUE.is("no subscriptions", x.brokerStage(0, 1), PubSubBroker.STAGE_NONE);
        DUE.is("none that matches", x.pending(1, BROKER_OUT) + x.pending(1, DOWN), 0);
        DUE.is("four that match, one entry", x.pending(2, BROKER_OUT), 1);
        DUE.is("four that match, one packet", x.pending(2, DOWN), 1);
        DUE.is("the last of four", x.brokerStage(3, 1), PubSubBroker.STAGE_PUB);
    }

    private static void quality() {
        for (int q = 0; q <= 2; q++) {
            for (int first = 0; first <= 2; first++) {
                for (int last = 0; last <= 2; last++) {
                    PubSubBroker x = new PubSubBroker();
                    x.connect(0, true);
                    x.subscribe(0, 1, first);
                    x.subscribe(0, 2, 2);
                    x.subscribe(0, 3, 0);
                    x.subscribe(0, 15, last);
                    x.publish(0, 1, 1, q);
                    Moves.up(x, 0);
                    Moves.down(x, 0);
                    String answer = new String[] {"", "2", "3"}[Math.min(q, Math.max(first, last))];
                    String release = q == 2 ? "4" : "";
                    DUE.is("q " + q + ", qos " + first + " and " + last, Moves.up(x, 0), answer + release);
                }
            }
        }
    }

    private static void qualityZeroNeedsNoEntry() {
        PubSubBroker x = Moves.fullBrokerOutbox(true);
        x.subscribe(0, 2, 2);
        x.subscribe(0, 3, 0);
        Moves.publishThroughBroker(x, 1, 2, 0);
        Moves.publishThroughBroker(x, 1, 3, 2);
        DUE.is("two packets more", x.pending(0, DOWN), 18);
        DUE.is("no entry more", x.pending(0, BROKER_OUT), 16);
        DUE.is("no overflow", x.pending(0, OVERFLOW), 0);
        Moves.down(x, 0);
        DUE.is("received", x.received(0, 2) + x.received(0, 3), 2);
        DUE.is("no answer", x.pending(0, UP), 16);
    }

    private static void qualityZeroLinkDown() {
        PubSubBroker x = new PubSubBroker();
        x.connect(0, false);
        x.connect(1, true);
        x.subscribe(0, 1, 2);
        x.subscribe(0, 2, 0);
        x.disconnect(0);
        int[] before = Seen.all(x);
        Moves.publishThrough(x, 1, 1, 1, 0);
        Moves.publishThrough(x, 1, 2, 1, 2);
        DUE.changedAlone("accepting two serials", x, before, Set.of("accepted(1)", "accepted(2)"));
        DUE.is("resume", x.connect(0, false), 1);
        DUE.is("nothing is sent later", Moves.down(x, 0), "");
        DUE.is("received", x.received(0, 1) + x.received(0, 2), 0);
    }

    private static void fullOutboxLinkUp() {
        for (int q = 1; q <= 2; q++) {
            PubSubBroker x = Moves.fullBrokerOutbox(true);
            x.subscribe(0, 2, 2);
            Moves.publishThroughBroker(x, 1, 2, q);
            DUE.is("overflow", x.pending(0, OVERFLOW), 1);
            DUE.is("entries", x.pending(0, BROKER_OUT), 16);
            DUE.is("packets", x.pending(0, DOWN), 16);
            DUE.is("stage", x.brokerStage(0, 2), PubSubBroker.STAGE_NONE);
            DUE.is("accepted", x.accepted(2), 1);
            Moves.publishThroughBroker(x, 1, 2, q);
            DUE.is("overflow", x.pending(0, OVERFLOW), 2);
            Moves.settle(x);
            DUE.is("received", x.received(0, 2) + x.received(0, 3), 0);
            DUE.is("the old entries were sent", x.retainedReceived(0), 16);
            DUE.is("another's overflow", x.pending(1, OVERFLOW), 0);
        }
    }

    private static void fullOutboxLinkDown() {
        for (int q = 1; q <= 2; q++) {
            PubSubBroker x = Moves.fullBrokerOutbox(false);
            x.subscribe(0, 2, 2);
            x.disconnect(0);
            Moves.publishThroughBroker(x, 1, 2, q);
            DUE.is("overflow", x.pending(0, OVERFLOW), 1);
            DUE.is("entries", x.pending(0, BROKER_OUT), 16);
            DUE.is("packets", x.pending(0, DOWN), 0);
            x.connect(0, false);
            DUE.is("resent", x.pending(0, DOWN), 16);
            Moves.settle(x);
            DUE.is("received", x.received(0, 2), 0);
            DUE.is("overflow", x.pending(0, OVERFLOW), 1);
        }
    }

    private static void sixteenthEntry() {
        PubSubBroker x = new PubSubBroker();
        x.connect(0, true);
        x.connect(1, true);
        x.subscribe(0, 1, 2);
        for (int s = 1; s <= 16; s++) {
            Moves.publishThroughBroker(x, 1, 1, 1 + s % 2);
            DUE.is("stage " + s, x.brokerStage(0, s), PubSubBroker.STAGE_PUB);
            DUE.is("entries", x.pending(0, BROKER_OUT), s);
            DUE.is("packets", x.pending(0, DOWN), s);
            DUE.is("overflow", x.pending(0, OVERFLOW), 0);
        }
        Moves.down(x, 0);
        DUE.is("with their qualities", Moves.up(x, 0), "32".repeat(8));
    }

    private static void entryWithAndWithoutPacket() {
        for (int q = 1; q <= 2; q++) {
            PubSubBroker x = new PubSubBroker();
            x.connect(0, false);
            x.connect(1, true);
            x.subscribe(0, 1, 2);
            Moves.publishThroughBroker(x, 1, 1, q);
            DUE.is("up: packets", x.pending(0, DOWN), 1);
            x.disconnect(0);
            Moves.publishThroughBroker(x, 1, 1, q);
            DUE.is("down: packets", x.pending(0, DOWN), 0);
            DUE.is("down: entries", x.pending(0, BROKER_OUT), 2);
            DUE.is("down: stage", x.brokerStage(0, 2), PubSubBroker.STAGE_PUB);
            x.connect(0, false);
            DUE.is("sent on resume", Moves.down(x, 0), "11");
            DUE.is("received", x.received(0, 1) + x.received(0, 2), 2);
        }
    }

    private static void markedDelivery() {
        for (int q = 0; q <= 2; q++) {
            PubSubBroker x = new PubSubBroker();
            x.connect(3, false);
            Moves.publishThrough(x, 3, 1, 1, 4 | q);
            for (int times = 1; times <= 3; times++) {
                x.subscribe(3, 1, 2);
                DUE.is("not before it arrives", x.retainedReceived(3), times - 1);
                Moves.settle(x);
                DUE.is("quality " + q, x.retainedReceived(3), times);
                DUE.is("received", x.received(3, 1), 0);
            }
            x.subscribe(3, 1, 2);
            x.disconnect(3);
            x.connect(3, false);
            Moves.settle(x);
            DUE.is("resent with its mark", x.retainedReceived(3), q == 0 ? 3 : 4);
            DUE.is("received", x.received(3, 1), 0);
        }
    }

    private static void unmarkedDelivery() {
        for (int q = 0; q <= 2; q++) {
            PubSubBroker x = new PubSubBroker();
            x.connect(2, false);
            x.subscribe(2, 1, 2);
            x.publish(2, 1, 1, 4 | q);
            x.toBroker(2);
            DUE.is("not before it arrives", x.received(2, 1), 0);
            x.toClient(2);
            DUE.is("quality " + q, x.received(2, 1), 1);
            x.disconnect(2);
            x.connect(2, false);
            Moves.down(x, 2);
            DUE.is("resent", x.received(2, 1), q == 1 ? 2 : 1);
            DUE.is("a live one has no mark, though it is retained", x.retainedReceived(2), 0);
            DUE.is("the entry", x.retainedSerial(1), 1);
        }
    }
}
