import java.util.Set;

/** Promise 5. */
public final class UnsubscribeTest {
    private static final Due DUE = new Due("UnsubscribeTest");

    public static void main(String[] args) {
        refused();
        removesOneAndKeepsTheOthers();
        changesNothingElse();
        stopsFurtherPublications();
        DUE.end();
    }

    private static void refused() {
        PubSubBroker x = new PubSubBroker();
        x.connect(0, false);
        x.subscribe(0, 241, 1);
        x.connect(1, false);
        x.subscribe(1, 1, 1);
        x.disconnect(1);
        int[] before = Seen.all(x);
        for (int c : Seen.wrongClients()) {
            DUE.no("unsubscribe " + c, x.unsubscribe(c, 241));
        }
        DUE.no("link down, session there", x.unsubscribe(1, 1));
        DUE.no("no session", x.unsubscribe(2, 1));
        int[] others = {1, 33, 225, 15, 0, -1, 4096, 241 + 4096, Integer.MIN_VALUE, Integer.MAX_VALUE};
        for (int filter : others) {
            DUE.no("unsubscribe " + filter, x.unsubscribe(0, filter));
        }
        DUE.unchanged("unsubscribe", x, before);
    }

    private static void removesOneAndKeepsTheOthers() {
        int[] filters = {15, 1, 225, 241};
        for (int gone = 0; gone < 4; gone++) {
            PubSubBroker x = new PubSubBroker();
            x.connect(0, true);
            for (int i = 0; i < 4; i++) {
                x.subscribe(0, filters[i], i % 3);
            }
            DUE.yes("unsubscribe", x.unsubscribe(0, filters[gone]));
            for (int i = 0; i < 4; i++) {
                DUE.is("qos of " + filters[i], x.subscriptionQos(0, filters[i]), i == gone ? -1 : i % 3);
            }
            DUE.no("unsubscribe again", x.unsubscribe(0, filters[gone]));
            DUE.is("room for one", x.subscribe(0, 2, 0), 0);
            DUE.is("and no more", x.subscribe(0, 3, 0), PubSubBroker.ERR_FULL);
        }
    }

    private static void changesNothingElse() {
        PubSubBroker x = new PubSubBroker();
        x.connect(0, true);
        x.subscribe(0, 1, 2);
        x.subscribe(0, 2, 0);
        x.connect(1, true);
        x.subscribe(1, 1, 1);
        x.publish(0, 1, 1, 6);
        x.toBroker(0);
        x.publish(0, 1, 1, 2);
        x.toClient(0);
        int[] before = Seen.all(x);
        DUE.yes("unsubscribe", x.unsubscribe(0, 1));
        DUE.is("subscription", x.subscriptionQos(0, 1), -1);
        x.subscribe(0, 3, 0);
        x.unsubscribe(0, 3);
        DUE.changedAlone("unsubscribe", x, before, Set.of("subscriptionQos(0, 1)"));
        DUE.is("the entry's exchange goes on", Moves.up(x, 0), "13");
    }

    private static void stopsFurtherPublications() {
        PubSubBroker x = new PubSubBroker();
        x.connect(0, true);
        x.subscribe(0, 1, 2);
        x.subscribe(0, 241, 0);
        x.unsubscribe(0, 1);
        Moves.publishThrough(x, 0, 1, 1, 2);
        DUE.is("by the other one", x.received(0, 1), 1);
        DUE.is("with its qos", x.pending(0, PubSubBroker.P_BROKER_OUT), 0);
        x.unsubscribe(0, 241);
        Moves.publishThrough(x, 0, 1, 1, 2);
        DUE.is("by none", x.received(0, 2), 0);
    }
}
