/** Promise 8: the moves to a client, with DELIVER. */
public final class ToClientTest {
    private static final Due DUE = new Due("ToClientTest");

    public static void main(String[] args) {
        nothingToMove();
        oneAtATimeOldestFirst();
        qualityOneIsDeliveredEachTime();
        qualityTwoIsDeliveredOnce();
        markedOnesCountApart();
        repliesOfTheBroker();
        for (int c = 0; c < 4; c++) {
            idsOfTheBrokerOutbox(c, (c + 1) % 4);
        }
        fullUpWire();
        DUE.end();
    }

    private static void nothingToMove() {
        PubSubBroker x = new PubSubBroker();
        x.connect(0, false);
        x.publish(0, 1, 1, 1);
        x.connect(1, false);
        x.subscribe(1, 2, 1);
        x.publish(1, 2, 1, 1);
        x.toBroker(1);
        x.disconnect(1);
        int[] before = Seen.all(x);
        for (int c : Seen.wrongClients()) {
            DUE.is("toClient " + c, x.toClient(c), PubSubBroker.NONE);
        }
        DUE.is("empty wire", x.toClient(0), PubSubBroker.NONE);
        DUE.is("link down", x.toClient(1), PubSubBroker.NONE);
        DUE.is("no session", x.toClient(2), PubSubBroker.NONE);
        DUE.unchanged("toClient", x, before);
    }

    private static void oneAtATimeOldestFirst() {
        PubSubBroker x = new PubSubBroker();
        x.connect(0, true);
        x.connect(1, true);
        x.subscribe(1, 15, 0);
        for (int s = 1; s <= 24; s++) {
            x.publish(0, 1, 1, 0);
        }
        Moves.up(x, 0);
        for (int s = 1; s <= 24; s++) {
            DUE.is("toClient", x.toClient(1), PubSubBroker.PUBLISH);
            DUE.is("received " + s, x.received(1, s), 1);
            DUE.is("received next", x.received(1, s + 1), s == 24 ? -1 : 0);
            DUE.is("received by another", x.received(0, s), 0);
            DUE.is("down", x.pending(1, PubSubBroker.P_DOWN), 24 - s);
        }
        DUE.is("no answers", x.pending(1, PubSubBroker.P_UP), 0);
    }

    private static PubSubBroker subscriberAndSerial(int quality) {
        PubSubBroker x = new PubSubBroker();
        x.connect(0, false);
        x.connect(1, true);
        x.subscribe(0, 1, 2);
        Moves.publishThroughBroker(x, 1, 1, quality);
        return x;
    }

    private static void qualityOneIsDeliveredEachTime() {
        PubSubBroker x = subscriberAndSerial(1);
        for (int times = 1; times <= 3; times++) {
            DUE.is("toClient", x.toClient(0), PubSubBroker.PUBLISH);
            DUE.is("received", x.received(0, 1), times);
            DUE.is("nothing held", x.pending(0, PubSubBroker.P_CLIENT_HELD), 0);
            x.disconnect(0);
            x.connect(0, false);
        }
        x.toClient(0);
        DUE.is("answer", Moves.up(x, 0), "2");
        DUE.is("broker outbox", x.pending(0, PubSubBroker.P_BROKER_OUT), 0);
    }

    private static void qualityTwoIsDeliveredOnce() {
        PubSubBroker x = subscriberAndSerial(2);
        for (int times = 1; times <= 3; times++) {
            DUE.is("toClient", x.toClient(0), PubSubBroker.PUBLISH);
            DUE.is("received", x.received(0, 1), 1);
            DUE.is("held", x.pending(0, PubSubBroker.P_CLIENT_HELD), 1);
            DUE.is("answered each time", x.pending(0, PubSubBroker.P_UP), 1);
            x.disconnect(0);
            x.connect(0, false);
        }
        x.toClient(0);
        DUE.is("PUBREC", x.toBroker(0), PubSubBroker.PUBREC);
        DUE.is("PUBREL", x.toClient(0), PubSubBroker.PUBREL);
        DUE.is("not held", x.pending(0, PubSubBroker.P_CLIENT_HELD), 0);
        x.disconnect(0);
        x.connect(0, false);
        DUE.is("PUBREL again", x.toClient(0), PubSubBroker.PUBREL);
        DUE.is("PUBCOMP all the same", Moves.up(x, 0), "5");
        DUE.is("broker outbox", x.pending(0, PubSubBroker.P_BROKER_OUT), 0);
        Moves.publishThrough(x, 1, 1, 1, 2);
        DUE.is("the id serves the next serial", x.received(0, 2), 1);
    }

    private static void markedOnesCountApart() {
        for (int q = 0; q <= 2; q++) {
            PubSubBroker x = new PubSubBroker();
            x.connect(0, true);
            Moves.publishThrough(x, 0, 1, 1, 4 | q);
            x.subscribe(0, 1, 2);
            DUE.is("toClient", x.toClient(0), PubSubBroker.PUBLISH);
            DUE.is("retainedReceived", x.retainedReceived(0), 1);
            DUE.is("received", x.received(0, 1), 0);
            DUE.is("another client's", x.retainedReceived(1), 0);
            Moves.settle(x);
            Moves.publishThrough(x, 0, 1, 1, 4 | q);
            DUE.is("a live one", x.received(0, 2), 1);
            DUE.is("retainedReceived", x.retainedReceived(0), 1);
        }
    }

    private static void repliesOfTheBroker() {
        PubSubBroker x = new PubSubBroker();
        x.connect(0, true);
        x.publish(0, 1, 1, 2);
        x.publish(0, 1, 1, 1);
        Moves.up(x, 0);
        DUE.is("PUBREC", x.toClient(0), PubSubBroker.PUBREC);
        DUE.is("still there", x.pending(0, PubSubBroker.P_CLIENT_OUT), 2);
        DUE.is("PUBREL waits", x.pending(0, PubSubBroker.P_UP), 1);
        DUE.is("PUBACK", x.toClient(0), PubSubBroker.PUBACK);
        DUE.is("quality 1 ends", x.pending(0, PubSubBroker.P_CLIENT_OUT), 1);
        DUE.is("no answer to it", Moves.up(x, 0), "4");
        DUE.is("PUBCOMP", x.toClient(0), PubSubBroker.PUBCOMP);
        DUE.is("quality 2 ends", x.pending(0, PubSubBroker.P_CLIENT_OUT), 0);
        DUE.is("no answer to it", x.pending(0, PubSubBroker.P_UP), 0);
    }

    /** Sixteen exchanges at once, ended from the middle, so that freed ids serve again beside used ones. */
    private static void idsOfTheBrokerOutbox(int c, int publisher) {
        PubSubBroker x = new PubSubBroker();
        x.connect(c, true);
        x.connect(publisher, true);
        x.subscribe(c, 15, 2);
        for (int s = 1; s <= 16; s++) {
            Moves.publishThroughBroker(x, publisher, 1, s % 2 == 0 ? 1 : 2);
        }
        Moves.down(x, c);
        DUE.is("held", x.pending(c, PubSubBroker.P_CLIENT_HELD), 8);
        Moves.up(x, c);
        DUE.is("those of quality 2 wait", x.pending(c, PubSubBroker.P_BROKER_OUT), 8);
        for (int s = 17; s <= 24; s++) {
            Moves.publishThroughBroker(x, publisher, 1, 2);
            DUE.is("stage " + s, x.brokerStage(c, s), PubSubBroker.STAGE_PUB);
        }
        DUE.is("PUBREL first", Moves.down(x, c), "4444444411111111");
        DUE.is("held", x.pending(c, PubSubBroker.P_CLIENT_HELD), 8);
        Moves.settle(x);
        for (int s = 1; s <= 24; s++) {
            DUE.is("received " + s, x.received(c, s), 1);
        }
        DUE.is("broker outbox", x.pending(c, PubSubBroker.P_BROKER_OUT), 0);
        DUE.is("held", x.pending(c, PubSubBroker.P_CLIENT_HELD), 0);
        DUE.is("overflow", x.pending(c, PubSubBroker.P_OVERFLOW), 0);
    }

    private static void fullUpWire() {
        PubSubBroker x = Moves.fullBrokerOutbox(false);
        x.publish(0, 2, 1, 2);
        x.toBroker(0);
        for (int s = 3; s <= 19; s++) {
            x.publish(0, 2, 1, 0);
        }
        DUE.is("up", x.pending(0, PubSubBroker.P_UP), 17);
        DUE.is("down", x.pending(0, PubSubBroker.P_DOWN), 17);
        DUE.is("moved all the same", Moves.down(x, 0), "1".repeat(16) + "3");
        DUE.is("up is full", x.pending(0, PubSubBroker.P_UP), 32);
        DUE.is("delivered", x.retainedReceived(0), 16);
        DUE.is("up", Moves.up(x, 0), "1".repeat(17) + "2".repeat(15));
        DUE.is("one answer was lost", x.pending(0, PubSubBroker.P_BROKER_OUT), 1);
        DUE.is("so was PUBREL", x.pending(0, PubSubBroker.P_BROKER_HELD), 1);
        DUE.is("the entry stays", x.pending(0, PubSubBroker.P_CLIENT_OUT), 1);
        x.disconnect(0);
        x.connect(0, false);
        DUE.is("it was released", x.toBroker(0), PubSubBroker.PUBREL);
        Moves.settle(x);
        DUE.is("ended", x.pending(0, PubSubBroker.P_CLIENT_OUT) + x.pending(0, PubSubBroker.P_BROKER_OUT), 0);
        DUE.is("delivered again", x.retainedReceived(0), 17);
    }
}
