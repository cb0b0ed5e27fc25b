/** Promise 1. */
public final class FreshStateTest {
    public static void main(String[] args) {
        Due due = new Due("FreshStateTest");
        everythingIsEmpty(due, new PubSubBroker());
        useOneObject();
        everythingIsEmpty(due, new PubSubBroker());
        firstSerialIsOne(due);
        due.end();
    }

    private static void everythingIsEmpty(Due due, PubSubBroker x) {
        for (int c = 0; c < 4; c++) {
            due.is("status", x.status(c), 0);
            due.is("retainedReceived", x.retainedReceived(c), 0);
            due.is("toBroker", x.toBroker(c), 0);
            due.is("toClient", x.toClient(c), 0);
            due.no("disconnect", x.disconnect(c));
            for (int which = 0; which <= 6; which++) {
                due.is("pending " + which, x.pending(c, which), 0);
            }
            for (int s = 1; s <= 24; s++) {
                due.is("received " + s, x.received(c, s), 0);
                due.is("brokerStage " + s, x.brokerStage(c, s), 0);
            }
            for (int filter = 0; filter <= 4095; filter++) {
                due.is("subscriptionQos " + filter, x.subscriptionQos(c, filter), -1);
            }
        }
        for (int s = 1; s <= 24; s++) {
            due.is("accepted " + s, x.accepted(s), 0);
        }
        for (int topic = 0; topic <= 4095; topic++) {
            due.is("retainedSerial " + topic, x.retainedSerial(topic), 0);
        }
    }

    /** Another object's calls must not show in a new one. */
    private static void useOneObject() {
        PubSubBroker x = new PubSubBroker();
        x.connect(0, false);
        x.subscribe(0, 15, 2);
        Moves.publishThrough(x, 0, 1, 1, 6);
        x.publish(0, 1, 1, 2);
    }

    private static void firstSerialIsOne(Due due) {
        for (int c = 0; c < 4; c++) {
            PubSubBroker x = new PubSubBroker();
            due.is("connect", x.connect(c, false), 0);
            due.is("subscribe", x.subscribe(c, 15, 2), 0);
            due.is("publish", x.publish(c, 1, 1, 0), 1);
        }
    }
}
