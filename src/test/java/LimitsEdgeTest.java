import java.util.function.Function;

/** The edges of publications, retained entries and the state per client, sentence by sentence. */
public final class LimitsEdgeTest {
    private static final Due DUE = new Due("LimitsEdgeTest");
    private static final int CLIENT_OUT = PubSubBroker.P_CLIENT_OUT;
    private static final int BROKER_OUT = PubSubBroker.P_BROKER_OUT;
    private static final int CLIENT_HELD = PubSubBroker.P_CLIENT_HELD;
    private static final int BROKER_HELD = PubSubBroker.P_BROKER_HELD;
    private static final int UP = PubSubBroker.P_UP;
    private static final int DOWN = PubSubBroker.P_DOWN;
    private static final int OVERFLOW = PubSubBroker.P_OVERFLOW;

    public static void main(String[] args) {
        DUE.sentence("Each accepted publish call gets the next serial, 1..MAX_PUBS.", LimitsEdgeTest::serials);
        DUE.sentence("That call fixes for ever the serial's topic, payload, quality q (0..2) and retain flag.",
                LimitsEdgeTest::fixedForEver);
        DUE.sentence("For every client c and serial s there is a count received(c, s); for every serial s a count "
                + "accepted(s); for every client c a count retainedReceived(c). All start at 0.",
                LimitsEdgeTest::countsOfTheirOwn);
        DUE.sentence("The broker keeps at most MAX_RETAINED retained entries", LimitsEdgeTest::mostRetainedEntries);
        DUE.sentence("at most one per topic code; each gives a serial", LimitsEdgeTest::oneRetainedPerTopic);
        for (int c = 0; c < 4; c++) {
            everyClient(c);
        }
        DUE.sentence("received, retainedReceived and overflow of c are kept.", LimitsEdgeTest::keptWhenDiscarding);
        DUE.end();
    }

    private static void everyClient(int c) {
        int other = (c + 1) % 4;
        DUE.sentence("Client side: an OUTBOX of at most CLIENT_OUT entries", () -> clientOutbox(c));
        DUE.sentence("Client side: a HELD set of packet ids", () -> clientHeldSet(c, other));
        DUE.sentence("Broker side: at most MAX_SUBS subscriptions (filter, qos)", () -> subscriptions(c));
        DUE.sentence("Broker side: an OUTBOX of at most BROKER_OUT entries", () -> brokerOutbox(c, other));
        DUE.sentence("Broker side: a HELD set of packet ids", () -> brokerHeldSet(c));
        DUE.sentence("overflow(c), a counter that no call ever resets.", () -> overflowStays(c));
        DUE.sentence("Each wire is a first-in-first-out list of at most WIRE packets.", () -> wiresInOrder(c));
        DUE.sentence("Each wire is a first-in-first-out list of at most WIRE packets. (UP beyond its end)",
                () -> upWrapsAround(c));
        DUE.sentence("Each wire is a first-in-first-out list of at most WIRE packets. (DOWN beyond its end)",
                () -> downWrapsAround(c, other));
        DUE.sentence("Putting a packet on a wire that already holds WIRE packets discards the packet. (UP)",
                () -> upDiscards(c));
        DUE.sentence("Putting a packet on a wire that already holds WIRE packets discards the packet. (DOWN)",
                () -> downDiscards(c, other));
        DUE.sentence("Entries keep creation order.", () -> creationOrder(c));
        DUE.sentence("A new entry takes the smallest id not used by the other entries of that outbox: 1..CLIENT_OUT "
                + "at a client", () -> idsAtAClient(c));
        DUE.sentence("1..BROKER_OUT at the broker", () -> idsAtTheBroker(c, other));
        DUE.sentence("Removing an entry frees its id. (in turn)", () -> freedIds(c));
        DUE.sentence("Removing an entry frees its id. (the newest entry of a client)", () -> freedNewestAtAClient(c));
        DUE.sentence("Removing an entry frees its id. (the newest entry of the broker)",
                () -> freedNewestAtTheBroker(c, other));
        DUE.sentence("DISCARDING c's session empties c's subscriptions, both of c's outboxes and both of c's HELD "
                + "sets, and marks the session absent.", () -> discarding(c));
    }

    private static void serials() {
        PubSubBroker x = new PubSubBroker();
        x.connect(0, true);
        x.connect(3, false);
        for (int s = 1; s <= 24; s++) {
            x.publish(4, 1, 1, 0);
            x.publish(1, 1, 1, 0);
            x.publish(0, 14, 1, 0);
            x.publish(0, 1, 1, 3);
            DUE.is("serial", x.publish(s % 2 == 0 ? 0 : 3, 1, s, s % 5 == 0 ? 4 : 0), s);
        }
        DUE.is("no serial 25", x.publish(0, 1, 1, 0), PubSubBroker.ERR_LIMIT);
        x.disconnect(0);
        x.connect(0, true);
        DUE.is("nor after a new session", x.publish(0, 1, 1, 0), PubSubBroker.ERR_LIMIT);
        Moves.settle(x);
        DUE.is("nor after all are accepted", x.publish(3, 1, 1, 0), PubSubBroker.ERR_LIMIT);
        DUE.is("the last that was not dropped", x.accepted(23), 1);
        DUE.is("no count for a serial 25", x.accepted(25), -1);
    }

    private static void fixedForEver() {
        PubSubBroker x = new PubSubBroker();
        x.connect(0, false);
        x.publish(0, 3549, Integer.MIN_VALUE, 6);
        x.publish(0, 1, 0, 5);
        x.publish(0, 33, 1, 1);
        x.publish(0, 34, 1, 4);
        x.disconnect(0);
        x.connect(1, true);
        x.subscribe(1, 15, 2);
        for (int s = 5; s <= 20; s++) {
            Moves.publishThrough(x, 1, 2, s, 4);
        }
        x.connect(0, false);
        Moves.settle(x);
        DUE.is("topic, payload and flag of serial 1", x.retainedSerial(3549), 1);
        DUE.is("payload of serial 2", x.retainedSerial(1), 0);
        DUE.is("flag of serial 3", x.retainedSerial(33), 0);
        DUE.is("serial 4 went with the link", x.retainedSerial(34), 0);
        DUE.is("the later one", x.retainedSerial(2), 20);
        x.disconnect(0);
        x.connect(0, true);
        x.subscribe(1, 3549, 2);
        DUE.is("quality of serial 1, its publisher's session gone", Moves.down(x, 1) + Moves.up(x, 1), "13");
    }

    private static void countsOfTheirOwn() {
        for (int c = 0; c < 4; c++) {
            PubSubBroker x = new PubSubBroker();
            x.connect(c, true);
            x.subscribe(c, 1, 0);
            Moves.publishThrough(x, c, 1, 5, 4);
            for (int s = 2; s <= 24; s++) {
                Moves.publishThrough(x, c, s == 24 ? 1 : 2, 5, 0);
            }
            x.subscribe(c, 1, 0);
            Moves.settle(x);
            for (int d = 0; d < 4; d++) {
                DUE.is("retainedReceived " + d, x.retainedReceived(d), d == c ? 1 : 0);
                for (int s = 1; s <= 24; s++) {
                    DUE.is("received " + d + ", " + s, x.received(d, s), d == c && (s == 1 || s == 24) ? 1 : 0);
                }
            }
            for (int s = 1; s <= 24; s++) {
                DUE.is("accepted " + s, x.accepted(s), 1);
            }
        }
    }

    private static void mostRetainedEntries() {
        PubSubBroker x = new PubSubBroker();
        x.connect(0, true);
        for (int topic = 1; topic <= 8; topic++) {
            Moves.publishThrough(x, 0, topic, 1, 4);
            DUE.is("entry " + topic, x.retainedSerial(topic), topic);
        }
        for (int topic = 9; topic <= 12; topic++) {
            Moves.publishThrough(x, 0, topic, 1, 4);
            DUE.is("entry " + topic, x.retainedSerial(topic), 0);
        }
        DUE.is("eight entries", x.subscribe(0, 15, 0), 8);
    }

    private static void oneRetainedPerTopic() {
        PubSubBroker x = new PubSubBroker();
        x.connect(0, true);
        for (int s = 1; s <= 10; s++) {
            Moves.publishThrough(x, 0, 33, s, 4);
            DUE.is("the entry's serial", x.retainedSerial(33), s);
        }
        DUE.is("one entry", x.subscribe(0, 33, 0), 1);
        Moves.publishThrough(x, 0, 1, 1, 4);
        Moves.publishThrough(x, 0, 801, 1, 4);
        DUE.is("a code of its own for each topic", x.subscribe(0, 15, 0), 3);
    }

    private static void clientOutbox(int c) {
        PubSubBroker x = new PubSubBroker();
        x.connect(c, false);
        for (int i = 1; i <= 4; i++) {
            DUE.is("entry " + i, x.publish(c, 1, 1, 2), i);
            DUE.is("entries", x.pending(c, CLIENT_OUT), i);
        }
        DUE.is("a fifth at STAGE_PUB", x.publish(c, 1, 1, 1), PubSubBroker.ERR_FULL);
        Moves.up(x, c);
        Moves.down(x, c);
        DUE.is("a fifth at STAGE_REL", x.publish(c, 1, 1, 2), PubSubBroker.ERR_FULL);
        x.disconnect(c);
        x.connect(c, false);
        DUE.is("a fifth after the resend", x.publish(c, 1, 1, 1), PubSubBroker.ERR_FULL);
        DUE.is("entries", x.pending(c, CLIENT_OUT), 4);
        x.toBroker(c);
        x.toClient(c);
        DUE.is("room for one", x.publish(c, 1, 1, 1), 5);
        DUE.is("and no more", x.publish(c, 1, 1, 1), PubSubBroker.ERR_FULL);
    }

    private static void clientHeldSet(int c, int other) {
        PubSubBroker x = new PubSubBroker();
        x.connect(c, false);
        x.connect(other, true);
        x.subscribe(c, 1, 2);
        for (int s = 1; s <= 16; s++) {
            Moves.publishThroughBroker(x, other, 1, 2);
            x.toClient(c);
            DUE.is("held", x.pending(c, CLIENT_HELD), s);
        }
        x.disconnect(c);
        x.connect(c, false);
        DUE.is("the same ids again", Moves.down(x, c), "1".repeat(16));
        DUE.is("are held once", x.pending(c, CLIENT_HELD), 16);
        Moves.settle(x);
        DUE.is("none left", x.pending(c, CLIENT_HELD), 0);
        for (int s = 1; s <= 16; s++) {
            DUE.is("received once", x.received(c, s), 1);
        }
    }

    private static void subscriptions(int c) {
        PubSubBroker x = new PubSubBroker();
        x.connect(c, false);
        for (int filter = 1; filter <= 4; filter++) {
            DUE.is("subscription " + filter, x.subscribe(c, filter, filter % 3), 0);
        }
        DUE.is("a fifth", x.subscribe(c, 5, 0), PubSubBroker.ERR_FULL);
        x.disconnect(c);
        x.connect(c, false);
        DUE.is("a fifth after the resume", x.subscribe(c, 5, 0), PubSubBroker.ERR_FULL);
        for (int filter = 1; filter <= 5; filter++) {
            DUE.is("qos of " + filter, x.subscriptionQos(c, filter), filter == 5 ? -1 : filter % 3);
        }
        DUE.is("another client has room", x.connect((c + 1) % 4, true) + x.subscribe((c + 1) % 4, 5, 0), 0);
    }

    private static void brokerOutbox(int c, int other) {
        PubSubBroker x = new PubSubBroker();
        x.connect(c, false);
        x.connect(other, true);
        x.subscribe(c, 1, 2);
        for (int s = 1; s <= 16; s++) {
            Moves.publishThroughBroker(x, other, 1, 2);
            DUE.is("entries", x.pending(c, BROKER_OUT), s);
            DUE.is("entry " + s, x.brokerStage(c, s), PubSubBroker.STAGE_PUB);
        }
        Moves.publishThroughBroker(x, other, 1, 1);
        DUE.is("no entry 17 at STAGE_PUB", x.brokerStage(c, 17), PubSubBroker.STAGE_NONE);
        Moves.down(x, c);
        Moves.up(x, c);
        Moves.publishThroughBroker(x, other, 1, 2);
        DUE.is("no entry 17 at STAGE_REL", x.brokerStage(c, 18), PubSubBroker.STAGE_NONE);
        DUE.is("entries", x.pending(c, BROKER_OUT), 16);
        DUE.is("overflow", x.pending(c, OVERFLOW), 2);
        x.toClient(c);
        x.toBroker(c);
        Moves.publishThroughBroker(x, other, 1, 2);
        DUE.is("room for one", x.brokerStage(c, 19), PubSubBroker.STAGE_PUB);
        Moves.publishThroughBroker(x, other, 1, 2);
        DUE.is("and no more", x.brokerStage(c, 20), PubSubBroker.STAGE_NONE);
    }

    private static void brokerHeldSet(int c) {
        PubSubBroker x = new PubSubBroker();
        x.connect(c, false);
        for (int s = 1; s <= 4; s++) {
            x.publish(c, 1, 1, 2);
            x.toBroker(c);
            DUE.is("held", x.pending(c, BROKER_HELD), s);
        }
        x.disconnect(c);
        x.connect(c, false);
        DUE.is("the same ids again", Moves.up(x, c), "1111");
        DUE.is("are held once", x.pending(c, BROKER_HELD), 4);
        Moves.settle(x);
        DUE.is("none left", x.pending(c, BROKER_HELD), 0);
        for (int s = 1; s <= 4; s++) {
            DUE.is("accepted once", x.accepted(s), 1);
        }
    }

    /** A broker whose client c has a full broker outbox, as in Moves.fullBrokerOutbox, and an overflow of 1. */
    private static PubSubBroker overflown(int c) {
        PubSubBroker x = new PubSubBroker();
        x.connect(c, false);
        Moves.publishThrough(x, c, 1, 5, 5);
        for (int i = 0; i <= PubSubBroker.BROKER_OUT; i++) {
            x.subscribe(c, 1, 1);
        }
        return x;
    }

    private static void overflowStays(int c) {
        PubSubBroker x = overflown(c);
        DUE.is("overflow", x.pending(c, OVERFLOW), 1);
        Moves.settle(x);
        DUE.is("after all packets", x.pending(c, OVERFLOW), 1);
        x.unsubscribe(c, 1);
        x.subscribe(c, 2, 2);
        x.publish(c, 2, 1, 2);
        DUE.is("after the calls of the session", x.pending(c, OVERFLOW), 1);
        x.disconnect(c);
        DUE.is("after disconnect", x.pending(c, OVERFLOW), 1);
        x.connect(c, false);
        DUE.is("after a resume", x.pending(c, OVERFLOW), 1);
        x.disconnect(c);
        x.connect(c, true);
        DUE.is("after a new clean session", x.pending(c, OVERFLOW), 1);
        x.disconnect(c);
        DUE.is("after the clean session", x.pending(c, OVERFLOW), 1);
        x.connect(c, false);
        DUE.is("after a new persistent session", x.pending(c, OVERFLOW), 1);
        for (int i = 0; i <= PubSubBroker.BROKER_OUT; i++) {
            x.subscribe(c, 1, 1);
        }
        DUE.is("it goes on", x.pending(c, OVERFLOW), 2);
        for (int d = 0; d < 4; d++) {
            DUE.is("overflow " + d, x.pending(d, OVERFLOW), d == c ? 2 : 0);
        }
    }

    private static void wiresInOrder(int c) {
        PubSubBroker x = overflown(c);
        for (int i = 17; i <= 32; i++) {
            x.subscribe(c, 1, 0);
            DUE.is("down", x.pending(c, DOWN), i);
        }
        for (int i = 1; i <= 32; i++) {
            DUE.is("PUBLISH " + i, x.toClient(c), PubSubBroker.PUBLISH);
            DUE.is("down", x.pending(c, DOWN), 32 - i);
            DUE.is("those of quality 1 came first", x.pending(c, UP), Math.min(i, 16));
        }
        DUE.is("down is empty", x.toClient(c), PubSubBroker.NONE);
        for (int s = 2; s <= 17; s++) {
            x.publish(c, 2, 1, 0);
            DUE.is("up", x.pending(c, UP), s + 15);
        }
        DUE.is("in order", Moves.up(x, c), "2".repeat(16) + "1".repeat(16));
        DUE.is("up is empty", x.toBroker(c), PubSubBroker.NONE);
    }

    /** Ten times seven answers and a serial between, so that the oldest packet's place goes round more than twice. */
    private static void upWrapsAround(int c) {
        PubSubBroker x = new PubSubBroker();
        x.connect(c, true);
        Moves.publishThrough(x, c, 1, 5, 5);
        int s = 1;
        for (int round = 0; round < 10; round++) {
            for (int i = 0; i < 7; i++) {
                x.subscribe(c, 1, 1);
            }
            for (int i = 0; i < 4; i++) {
                x.toClient(c);
            }
            s = x.publish(c, 2, 1, 0);
            Moves.down(x, c);
            DUE.is("up", x.pending(c, UP), 8);
            DUE.is("the serial is in its place", Moves.up(x, c), "22221222");
            DUE.is("accepted", x.accepted(s), 1);
            DUE.is("outbox", x.pending(c, BROKER_OUT), 0);
        }
        DUE.is("serials", s, 11);
    }

    /** The wire is kept at 31 or 32 packets while its oldest packet's place goes round. */
    private static void downWrapsAround(int c, int other) {
        PubSubBroker x = new PubSubBroker();
        x.connect(c, true);
        x.connect(other, true);
        Moves.publishThrough(x, other, 1, 5, 4);
        x.subscribe(c, 2, 0);
        for (int i = 0; i < 31; i++) {
            x.subscribe(c, 1, 0);
        }
        for (int s = 2; s <= 24; s++) {
            Moves.publishThroughBroker(x, other, 2, 0);
            DUE.is("full", x.pending(c, DOWN), 32);
            x.toClient(c);
            DUE.is("a marked one", x.retainedReceived(c), s - 1);
        }
        for (int s = 2; s <= 24; s++) {
            DUE.is("serials wait behind", x.received(c, s), 0);
        }
        for (int i = 24; i <= 31; i++) {
            x.toClient(c);
            DUE.is("a marked one", x.retainedReceived(c), i);
        }
        for (int s = 2; s <= 24; s++) {
            DUE.is("serial " + s, x.toClient(c), PubSubBroker.PUBLISH);
            DUE.is("received", x.received(c, s), 1);
        }
        DUE.is("down is empty", x.toClient(c), PubSubBroker.NONE);
    }

    private static void upDiscards(int c) {
        PubSubBroker x = overflown(c);
        Moves.down(x, c);
        for (int s = 2; s <= 17; s++) {
            x.publish(c, 2, 1, 0);
        }
        x.publish(c, 2, 1, 0);
        x.publish(c, 2, 1, 1);
        DUE.is("up stays full", x.pending(c, UP), 32);
        DUE.is("the oldest is still there", x.toBroker(c), PubSubBroker.PUBACK);
        x.publish(c, 2, 1, 0);
        x.subscribe(c, 1, 1);
        x.toClient(c);
        DUE.is("an answer is discarded", x.pending(c, UP), 32);
        DUE.is("the packets", Moves.up(x, c), "2".repeat(15) + "1".repeat(17));
        int[] accepted = {1, 0, 0, 1};
        for (int i = 0; i < 4; i++) {
            DUE.is("accepted " + (17 + i), x.accepted(17 + i), accepted[i]);
        }
        DUE.is("the entry whose answer went", x.pending(c, BROKER_OUT), 1);
        DUE.is("it was delivered", x.retainedReceived(c), 17);
    }

    private static void downDiscards(int c, int other) {
        PubSubBroker x = new PubSubBroker();
        x.connect(c, false);
        x.connect(other, true);
        Moves.publishThrough(x, other, 1, 5, 4);
        x.subscribe(c, 2, 2);
        for (int i = 0; i < 33; i++) {
            DUE.is("subscribe", x.subscribe(c, 1, 0), 1);
        }
        DUE.is("down is full", x.pending(c, DOWN), 32);
        for (int q = 0; q <= 2; q++) {
            Moves.publishThroughBroker(x, other, 2, q);
        }
        x.publish(c, 3, 1, 1);
        x.publish(c, 3, 1, 2);
        Moves.up(x, c);
        DUE.is("down stays full", x.pending(c, DOWN), 32);
        DUE.is("entries are made all the same", x.pending(c, BROKER_OUT), 2);
        DUE.is("the old packets", Moves.down(x, c), "1".repeat(32));
        DUE.is("all of them marked", x.retainedReceived(c), 32);
        DUE.is("answers are discarded", x.pending(c, CLIENT_OUT), 2);
        x.disconnect(c);
        x.connect(c, false);
        Moves.settle(x);
        DUE.is("quality 0 is lost", x.received(c, 2), 0);
        DUE.is("quality 1 comes again", x.received(c, 3), 1);
        DUE.is("quality 2 comes again", x.received(c, 4), 1);
        DUE.is("no overflow", x.pending(c, OVERFLOW), 0);
    }

    /** Entries that end between others leave the rest in order, and a new one stands behind them. */
    private static void creationOrder(int c) {
        PubSubBroker x = new PubSubBroker();
        x.connect(c, false);
        x.publish(c, 2, 1, 2);
        x.publish(c, 2, 1, 1);
        x.publish(c, 2, 1, 2);
        x.toBroker(c);
        x.toBroker(c);
        Moves.down(x, c);
        x.publish(c, 2, 1, 1);
        x.disconnect(c);
        x.connect(c, false);
        DUE.is("three entries", x.pending(c, UP), 3);
        DUE.is("serial 1", x.toBroker(c), PubSubBroker.PUBREL);
        x.toBroker(c);
        DUE.is("serial 3", x.accepted(3), 1);
        DUE.is("not yet serial 4", x.accepted(4), 0);
        x.toBroker(c);
        DUE.is("serial 4", x.accepted(4), 1);
    }

    /** One id stays in use, and in the broker's HELD set: a serial that took it as well would not be accepted. */
    private static void idsAtAClient(int c) {
        for (int used = 1; used <= 4; used++) {
            PubSubBroker x = new PubSubBroker();
            x.connect(c, true);
            Moves.publishThrough(x, c, 1, 5, 4);
            for (int id = 1; id <= 4; id++) {
                x.publish(c, 2, 1, id == used ? 2 : 1);
            }
            for (int id = 1; id < used; id++) {
                x.toBroker(c);
            }
            Moves.down(x, c);
            loseOneAnswer(x, c);
            Moves.settle(x);
            DUE.is("one entry stays", x.pending(c, CLIENT_OUT), 1);
            for (int s = 6; s <= 8; s++) {
                DUE.is("serial", x.publish(c, 2, 1, 2), s);
            }
            Moves.up(x, c);
            DUE.is("four ids", x.pending(c, BROKER_HELD), 4);
            for (int s = 6; s <= 8; s++) {
                DUE.is("accepted", x.accepted(s), 1);
            }
        }
    }

    /** Lets the broker handle a packet from c while its answer meets a full wire. */
    private static void loseOneAnswer(PubSubBroker x, int c) {
        for (int i = 0; i < PubSubBroker.WIRE; i++) {
            x.subscribe(c, 1, 0);
        }
        x.toBroker(c);
        Moves.down(x, c);
    }

    /** Every second id stays in use and in the client's HELD set: a serial that took one of them would not come. */
    private static void idsAtTheBroker(int c, int other) {
        for (int odd = 0; odd <= 1; odd++) {
            PubSubBroker x = new PubSubBroker();
            x.connect(c, true);
            x.connect(other, true);
            x.subscribe(c, 2, 2);
            for (int s = 1; s <= 16; s++) {
                Moves.publishThroughBroker(x, other, 2, s % 2 == odd ? 2 : 1);
            }
            Moves.down(x, c);
            Moves.up(x, c);
            DUE.is("every second entry stays", x.pending(c, BROKER_OUT), 8);
            x.toClient(c);
            Moves.up(x, c);
            DUE.is("one of these ends", x.pending(c, BROKER_OUT), 7);
            for (int s = 17; s <= 24; s++) {
                Moves.publishThroughBroker(x, other, 2, 2);
            }
            DUE.is("new entries", x.pending(c, BROKER_OUT), 15);
            Moves.settle(x);
            for (int s = 1; s <= 24; s++) {
                DUE.is("received " + s, x.received(c, s), 1);
            }
            DUE.is("all ended", x.pending(c, BROKER_OUT) + x.pending(c, CLIENT_HELD), 0);
        }
    }

    private static void freedIds(int c) {
        PubSubBroker x = new PubSubBroker();
        x.connect(c, true);
        x.subscribe(c, 1, 2);
        for (int s = 1; s <= 24; s++) {
            DUE.is("serial", Moves.publishThrough(x, c, 1, 1, 1 + s % 2), s);
            DUE.is("accepted", x.accepted(s), 1);
            DUE.is("received", x.received(c, s), 1);
            DUE.is("outboxes", x.pending(c, CLIENT_OUT) + x.pending(c, BROKER_OUT), 0);
        }
    }

    /**
     * Id 1 goes from the oldest entry to the newest, which ends, and then to another. Ids 2 and 3 stay in use and in
     * the broker's HELD set, as their answers meet a full wire: a serial that took one of them would not be accepted.
     */
    private static void freedNewestAtAClient(int c) {
        PubSubBroker x = new PubSubBroker();
        x.connect(c, true);
        Moves.publishThrough(x, c, 1, 5, 4);
        x.publish(c, 2, 1, 1);
        x.publish(c, 2, 1, 2);
        x.publish(c, 2, 1, 2);
        x.toBroker(c);
        x.toClient(c);
        x.publish(c, 2, 1, 1);
        loseOneAnswer(x, c);
        loseOneAnswer(x, c);
        x.toBroker(c);
        DUE.is("the newest ends", Moves.down(x, c), "2");
        DUE.is("entries", x.pending(c, CLIENT_OUT), 2);
        DUE.is("another", x.publish(c, 2, 1, 2), 6);
        Moves.up(x, c);
        DUE.is("is accepted", x.accepted(6), 1);
        DUE.is("three ids", x.pending(c, BROKER_HELD), 3);
    }

    /** The same at the broker: UP(c) is full when client c handles the serials under ids 2 and 3. */
    private static void freedNewestAtTheBroker(int c, int other) {
        PubSubBroker x = new PubSubBroker();
        x.connect(c, true);
        x.connect(other, true);
        Moves.publishThrough(x, other, 1, 5, 5);
        x.subscribe(c, 2, 2);
        for (int id = 1; id <= 16; id++) {
            x.subscribe(c, 1, 1);
        }
        for (int id = 1; id <= 3; id++) {
            x.toClient(c);
            x.toBroker(c);
        }
        x.subscribe(c, 1, 1);
        Moves.publishThroughBroker(x, other, 2, 2);
        Moves.publishThroughBroker(x, other, 2, 2);
        for (int id = 4; id <= 17; id++) {
            x.toClient(c);
        }
        for (int s = 4; s <= 21; s++) {
            x.publish(c, 3, 1, 0);
        }
        DUE.is("up is full", x.pending(c, UP), 32);
        DUE.is("ids 2 and 3", Moves.down(x, c), "11");
        DUE.is("their answers are lost", Moves.up(x, c), "2".repeat(14) + "1".repeat(18));
        Moves.publishThroughBroker(x, other, 2, 1);
        DUE.is("the newest", Moves.down(x, c), "1");
        DUE.is("ends", Moves.up(x, c), "2");
        DUE.is("entries", x.pending(c, BROKER_OUT), 2);
        Moves.publishThroughBroker(x, other, 2, 2);
        Moves.down(x, c);
        DUE.is("another is received", x.received(c, 23), 1);
        DUE.is("three ids", x.pending(c, CLIENT_HELD), 3);
    }

    /** Client c with something in each of its places; persistent and down. */
    private static PubSubBroker filled(int c) {
        PubSubBroker x = new PubSubBroker();
        x.connect(c, false);
        x.subscribe(c, 1, 2);
        x.publish(c, 1, 1, 2);
        x.publish(c, 1, 1, 2);
        x.toBroker(c);
        x.toBroker(c);
        x.toClient(c);
        x.disconnect(c);
        return x;
    }

    private static void discarding(int c) {
        PubSubBroker x = filled(c);
        int[] before = {2, 2, 1, 2};
        for (int which = 0; which < 4; which++) {
            DUE.is("pending before", x.pending(c, which), before[which]);
        }
        DUE.is("a new clean session", x.connect(c, true), 0);
        empty(x, c);
        DUE.is("status", x.status(c), 3);
        x.subscribe(c, 2, 2);
        DUE.is("a new serial under a discarded id", x.publish(c, 2, 1, 2), 3);
        DUE.is("PUBLISH alone", Moves.up(x, c), "1");
        DUE.is("is accepted", x.accepted(3), 1);
        DUE.is("and sent", Moves.down(x, c), "13");
        DUE.is("and received under a discarded id", x.received(c, 3), 1);
        DUE.yes("disconnect", x.disconnect(c));
        empty(x, c);
        DUE.is("absent", x.status(c), 0);
        x.connect((c + 1) % 4, true);
        Moves.publishThrough(x, (c + 1) % 4, 2, 1, 2);
        DUE.is("no session to send to", x.pending(c, BROKER_OUT), 0);
        DUE.is("nothing to resume", x.connect(c, false), 0);
    }

    private static void empty(PubSubBroker x, int c) {
        for (int which = 0; which <= 5; which++) {
            DUE.is("pending " + which, x.pending(c, which), 0);
        }
        DUE.is("subscription", x.subscriptionQos(c, 1), -1);
        DUE.is("subscription", x.subscriptionQos(c, 2), -1);
    }

    private static void keptWhenDiscarding() {
        Function<PubSubBroker, String> counts = x -> x.received(2, 2) + " " + x.retainedReceived(2) + " "
                + x.pending(2, OVERFLOW) + " " + x.accepted(1) + " " + x.retainedSerial(1);
        PubSubBroker x = overflown(2);
        Moves.settle(x);
        Moves.publishThrough(x, 2, 1, 1, 1);
        DUE.is("before", counts.apply(x), "1 16 1 1 1");
        x.disconnect(2);
        x.connect(2, true);
        DUE.is("a persistent session discarded by connect", counts.apply(x), "1 16 1 1 1");
        x.disconnect(2);
        DUE.is("a clean session discarded by disconnect", counts.apply(x), "1 16 1 1 1");
        x.connect(2, false);
        DUE.is("an absent session", counts.apply(x), "1 16 1 1 1");
    }
}
