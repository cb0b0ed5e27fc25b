/** Promise 2. */
public final class ConnectTest {
    private static final Due DUE = new Due("ConnectTest");

    public static void main(String[] args) {
        wrongClient();
        linkAlreadyUp();
        newSessions();
        cleanConnectDiscardsPersistentSession();
        countsOutliveTheSession();
        cleanSessionIsNeverResumed();
        resumeSendsClientEntriesOldestFirst();
        resumeSendsBrokerEntriesOldestFirst();
        resumeKeepsHeldSets();
        for (int c = 0; c < 4; c++) {
            resumeOfEveryClient(c, (c + 1) % 4);
            everyHeldIdGoes(c, (c + 1) % 4);
        }
        otherClientsStay();
        DUE.end();
    }

    private static void wrongClient() {
        PubSubBroker x = new PubSubBroker();
        x.connect(0, false);
        int[] before = Seen.all(x);
        for (int c : Seen.wrongClients()) {
            DUE.is("connect " + c, x.connect(c, true), PubSubBroker.ERR_CLIENT);
            DUE.is("connect " + c, x.connect(c, false), PubSubBroker.ERR_CLIENT);
            DUE.unchanged("connect " + c, x, before);
        }
    }

    private static void linkAlreadyUp() {
        PubSubBroker x = new PubSubBroker();
        x.connect(2, false);
        x.subscribe(2, 1, 2);
        x.publish(2, 1, 1, 2);
        x.toBroker(2);
        x.publish(2, 1, 1, 1);
        int[] before = Seen.all(x);
        DUE.is("connect clean", x.connect(2, true), PubSubBroker.ERR_STATE);
        DUE.is("connect persistent", x.connect(2, false), PubSubBroker.ERR_STATE);
        DUE.unchanged("connect", x, before);
    }

    private static void newSessions() {
        for (int c = 0; c < 4; c++) {
            PubSubBroker x = new PubSubBroker();
            DUE.is("connect clean", x.connect(c, true), 0);
            DUE.is("status clean", x.status(c), 3);
            x.disconnect(c);
            DUE.is("connect persistent", x.connect(c, false), 0);
            DUE.is("status persistent", x.status(c), 7);
            x.disconnect(c);
            DUE.is("resume", x.connect(c, false), 1);
            DUE.is("status resumed", x.status(c), 7);
        }
    }

    private static void cleanConnectDiscardsPersistentSession() {
        PubSubBroker x = sessionWithEverything();
        DUE.is("client outbox", x.pending(0, PubSubBroker.P_CLIENT_OUT), 2);
        DUE.is("broker outbox", x.pending(0, PubSubBroker.P_BROKER_OUT), 2);
        DUE.is("client held", x.pending(0, PubSubBroker.P_CLIENT_HELD), 1);
        DUE.is("broker held", x.pending(0, PubSubBroker.P_BROKER_HELD), 1);
        DUE.is("connect clean", x.connect(0, true), 0);
        DUE.is("status", x.status(0), 3);
        for (int which = 0; which <= 5; which++) {
            DUE.is("pending " + which, x.pending(0, which), 0);
        }
        DUE.is("subscription", x.subscriptionQos(0, 1), -1);
        x.disconnect(0);
        DUE.is("nothing left to resume", x.connect(0, false), 0);
    }

    /** Client 0, persistent and down, with entries in both outboxes, both HELD sets and a subscription. */
    private static PubSubBroker sessionWithEverything() {
        PubSubBroker x = new PubSubBroker();
        x.connect(0, false);
        x.connect(1, true);
        x.subscribe(0, 1, 2);
        x.publish(0, 2, 1, 2);
        x.toBroker(0);
        x.publish(1, 1, 1, 2);
        x.publish(1, 1, 1, 1);
        Moves.up(x, 1);
        x.toClient(0);
        x.toClient(0);
        x.publish(0, 2, 1, 1);
        x.disconnect(0);
        return x;
    }

    private static void countsOutliveTheSession() {
        PubSubBroker x = Moves.fullBrokerOutbox(false);
        x.subscribe(0, 1, 1);
        Moves.publishThrough(x, 1, 1, 3, 1);
        x.disconnect(0);
        DUE.is("connect clean", x.connect(0, true), 0);
        DUE.is("overflow", x.pending(0, PubSubBroker.P_OVERFLOW), 2);
        DUE.is("retainedReceived", x.retainedReceived(0), 16);
        DUE.is("accepted", x.accepted(1), 1);
        DUE.is("retainedSerial", x.retainedSerial(1), 1);
        x.subscribe(0, 2, 0);
        Moves.publishThrough(x, 1, 2, 3, 0);
        DUE.is("received", x.received(0, 3), 1);
        x.disconnect(0);
        x.connect(0, true);
        DUE.is("received after discarding", x.received(0, 3), 1);
    }

    private static void cleanSessionIsNeverResumed() {
        PubSubBroker x = new PubSubBroker();
        x.connect(0, true);
        x.subscribe(0, 1, 1);
        x.publish(0, 1, 1, 1);
        x.disconnect(0);
        DUE.is("connect after a clean session", x.connect(0, false), 0);
        DUE.is("subscription", x.subscriptionQos(0, 1), -1);
        DUE.is("up", x.pending(0, PubSubBroker.P_UP), 0);
        DUE.is("client outbox", x.pending(0, PubSubBroker.P_CLIENT_OUT), 0);
    }

    private static void resumeSendsClientEntriesOldestFirst() {
        PubSubBroker x = new PubSubBroker();
        x.connect(0, false);
        x.publish(0, 1, 1, 1);
        x.publish(0, 1, 1, 1);
        x.publish(0, 1, 1, 2);
        x.toBroker(0);
        x.toClient(0);
        DUE.is("serial in the freed id", x.publish(0, 1, 1, 1), 4);
        x.toBroker(0);
        x.toBroker(0);
        x.toClient(0);
        x.toClient(0);
        DUE.is("publish", x.publish(0, 1, 1, 2), 5);
        x.disconnect(0);
        DUE.is("connect", x.connect(0, false), 1);
        DUE.is("up", x.pending(0, PubSubBroker.P_UP), 3);
        DUE.is("outbox", x.pending(0, PubSubBroker.P_CLIENT_OUT), 3);
        DUE.is("oldest is at STAGE_REL", x.toBroker(0), PubSubBroker.PUBREL);
        x.toBroker(0);
        DUE.is("then serial 4", x.accepted(4), 1);
        DUE.is("not yet serial 5", x.accepted(5), 0);
        x.toBroker(0);
        DUE.is("then serial 5", x.accepted(5), 1);
        DUE.is("the answers", Moves.down(x, 0), "523");
    }

    private static void resumeSendsBrokerEntriesOldestFirst() {
        PubSubBroker x = new PubSubBroker();
        x.connect(0, false);
        x.connect(1, true);
        Moves.publishThrough(x, 1, 1, 1, 6);
        x.subscribe(0, 1, 2);
        x.publish(1, 1, 1, 2);
        x.publish(1, 1, 1, 1);
        Moves.up(x, 1);
        DUE.is("first packets", Moves.down(x, 0), "111");
        DUE.is("PUBREC for the marked one", x.toBroker(0), PubSubBroker.PUBREC);
        x.disconnect(0);
        DUE.is("connect", x.connect(0, false), 1);
        DUE.is("down", x.pending(0, PubSubBroker.P_DOWN), 3);
        DUE.is("outbox", x.pending(0, PubSubBroker.P_BROKER_OUT), 3);
        DUE.is("the resent packets", Moves.down(x, 0), "411");
        DUE.is("the answers", Moves.up(x, 0), "532");
        DUE.is("quality 2 came once", x.received(0, 2), 1);
        DUE.is("quality 1 came twice", x.received(0, 3), 2);
        DUE.is("the marked one came once", x.retainedReceived(0), 1);

        PubSubBroker y = new PubSubBroker();
        y.connect(0, false);
        Moves.publishThrough(y, 0, 1, 1, 5);
        y.subscribe(0, 1, 1);
        y.disconnect(0);
        y.connect(0, false);
        DUE.is("resent with its mark", y.toClient(0), PubSubBroker.PUBLISH);
        DUE.is("retainedReceived", y.retainedReceived(0), 1);
        DUE.is("received", y.received(0, 1), 0);
    }

    private static void resumeKeepsHeldSets() {
        PubSubBroker x = sessionWithEverything();
        DUE.is("connect", x.connect(0, false), 1);
        DUE.is("client held", x.pending(0, PubSubBroker.P_CLIENT_HELD), 1);
        DUE.is("broker held", x.pending(0, PubSubBroker.P_BROKER_HELD), 1);
        DUE.is("subscription", x.subscriptionQos(0, 1), 2);
        Moves.settle(x);
        DUE.is("accepted once", x.accepted(1), 1);
        DUE.is("received once", x.received(0, 2), 1);
    }

    private static void resumeOfEveryClient(int c, int publisher) {
        PubSubBroker x = new PubSubBroker();
        x.connect(c, false);
        x.connect(publisher, false);
        x.subscribe(c, 1, 2);
        x.publish(publisher, 1, 1, 2);
        x.toBroker(publisher);
        x.publish(c, 2, 1, 1);
        x.publish(c, 2, 1, 2);
        x.disconnect(c);
        DUE.is("connect " + c, x.connect(c, false), 1);
        DUE.is("up " + c, x.pending(c, PubSubBroker.P_UP), 2);
        DUE.is("down " + c, x.pending(c, PubSubBroker.P_DOWN), 1);
        DUE.is("up of the other", x.pending(publisher, PubSubBroker.P_UP), 0);
        DUE.is("down of the other", x.pending(publisher, PubSubBroker.P_DOWN), 1);
        Moves.settle(x);
        DUE.is("received " + c, x.received(c, 1), 1);
        DUE.is("accepted", x.accepted(2) + x.accepted(3), 2);
    }

    private static void everyHeldIdGoes(int c, int publisher) {
        PubSubBroker x = new PubSubBroker();
        x.connect(c, false);
        x.connect(publisher, true);
        x.subscribe(c, 1, 2);
        for (int s = 1; s <= 16; s++) {
            Moves.publishThroughBroker(x, publisher, 1, 2);
        }
        Moves.down(x, c);
        for (int s = 17; s <= 20; s++) {
            x.publish(c, 2, 1, 2);
        }
        Moves.up(x, c);
        DUE.is("client held", x.pending(c, PubSubBroker.P_CLIENT_HELD), 16);
        DUE.is("broker held", x.pending(c, PubSubBroker.P_BROKER_HELD), 4);
        x.disconnect(c);
        DUE.is("client held, down", x.pending(c, PubSubBroker.P_CLIENT_HELD), 16);
        x.connect(c, true);
        DUE.is("client held, clean", x.pending(c, PubSubBroker.P_CLIENT_HELD), 0);
        DUE.is("broker held, clean", x.pending(c, PubSubBroker.P_BROKER_HELD), 0);
        x.publish(c, 2, 1, 2);
        x.toBroker(c);
        DUE.is("id 1 is new to the broker", x.accepted(21), 1);
    }

    private static void otherClientsStay() {
        PubSubBroker x = new PubSubBroker();
        x.connect(1, false);
        x.subscribe(1, 1, 2);
        x.publish(1, 1, 1, 2);
        x.connect(3, false);
        x.disconnect(3);
        x.connect(0, true);
        x.connect(2, false);
        DUE.is("status 1", x.status(1), 7);
        DUE.is("up 1", x.pending(1, PubSubBroker.P_UP), 1);
        DUE.is("subscription 1", x.subscriptionQos(1, 1), 2);
        DUE.is("status 3", x.status(3), 6);
    }
}
