/** Promise 3. */
public final class DisconnectTest {
    private static final Due DUE = new Due("DisconnectTest");

    public static void main(String[] args) {
        refused();
        cleanSessionGoes();
        persistentSessionStays();
        countsStay();
        othersStay();
        DUE.end();
    }

    private static void refused() {
        PubSubBroker x = new PubSubBroker();
        x.connect(0, false);
        x.publish(0, 1, 1, 1);
        x.connect(1, false);
        x.publish(1, 1, 1, 1);
        x.disconnect(1);
        int[] before = Seen.all(x);
        for (int c : Seen.wrongClients()) {
            DUE.no("disconnect " + c, x.disconnect(c));
        }
        DUE.no("disconnect without a session", x.disconnect(2));
        DUE.no("disconnect a persistent session that is down", x.disconnect(1));
        DUE.unchanged("disconnect", x, before);
    }

    private static PubSubBroker busyClient(boolean clean) {
        PubSubBroker x = new PubSubBroker();
        x.connect(0, clean);
        x.subscribe(0, 241, 2);
        x.publish(0, 1, 1, 2);
        x.toBroker(0);
        x.toClient(0);
        x.publish(0, 1, 1, 1);
        return x;
    }

    private static void cleanSessionGoes() {
        PubSubBroker x = busyClient(true);
        DUE.yes("disconnect", x.disconnect(0));
        DUE.is("status", x.status(0), 0);
        DUE.is("subscription", x.subscriptionQos(0, 241), -1);
        for (int which = 0; which <= 5; which++) {
            DUE.is("pending " + which, x.pending(0, which), 0);
        }
        DUE.no("disconnect again", x.disconnect(0));
    }

    private static void persistentSessionStays() {
        PubSubBroker x = busyClient(false);
        DUE.is("up before", x.pending(0, PubSubBroker.P_UP), 2);
        DUE.is("down before", x.pending(0, PubSubBroker.P_DOWN), 1);
        DUE.yes("disconnect", x.disconnect(0));
        DUE.is("status", x.status(0), 6);
        DUE.is("subscription", x.subscriptionQos(0, 241), 2);
        DUE.is("client outbox", x.pending(0, PubSubBroker.P_CLIENT_OUT), 2);
        DUE.is("broker outbox", x.pending(0, PubSubBroker.P_BROKER_OUT), 1);
        DUE.is("client held", x.pending(0, PubSubBroker.P_CLIENT_HELD), 1);
        DUE.is("broker held", x.pending(0, PubSubBroker.P_BROKER_HELD), 1);
        DUE.is("up", x.pending(0, PubSubBroker.P_UP), 0);
        DUE.is("down", x.pending(0, PubSubBroker.P_DOWN), 0);
        DUE.is("toBroker", x.toBroker(0), 0);
        DUE.is("toClient", x.toClient(0), 0);
        DUE.no("disconnect again", x.disconnect(0));
    }

    private static void countsStay() {
        PubSubBroker x = Moves.fullBrokerOutbox(true);
        x.subscribe(0, 1, 1);
        x.toClient(0);
        x.publish(0, 2, 1, 0);
        x.toBroker(0);
        x.toBroker(0);
        DUE.yes("disconnect", x.disconnect(0));
        DUE.is("overflow", x.pending(0, PubSubBroker.P_OVERFLOW), 1);
        DUE.is("retainedReceived", x.retainedReceived(0), 1);
        DUE.is("accepted", x.accepted(2), 1);
        DUE.is("retainedSerial", x.retainedSerial(1), 1);

        PubSubBroker y = new PubSubBroker();
        y.connect(3, true);
        y.subscribe(3, 1, 0);
        Moves.publishThrough(y, 3, 1, 1, 0);
        y.disconnect(3);
        DUE.is("received", y.received(3, 1), 1);
    }

    private static void othersStay() {
        PubSubBroker x = new PubSubBroker();
        for (int c = 0; c < 4; c++) {
            x.connect(c, c % 2 == 0);
            x.subscribe(c, 1, 1);
            x.publish(c, 1, 1, 1);
        }
        Moves.up(x, 2);
        x.disconnect(1);
        for (int c = 0; c < 4; c++) {
            int here = c == 1 ? 0 : 1;
            DUE.is("up " + c, x.pending(c, PubSubBroker.P_UP), c == 2 ? 0 : here);
            DUE.is("down " + c, x.pending(c, PubSubBroker.P_DOWN), c == 2 ? 2 : here);
            DUE.is("client outbox " + c, x.pending(c, PubSubBroker.P_CLIENT_OUT), 1);
            DUE.is("broker outbox " + c, x.pending(c, PubSubBroker.P_BROKER_OUT), 1);
        }
    }
}
