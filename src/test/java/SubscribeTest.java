/** Promise 4. */
public final class SubscribeTest {
    private static final Due DUE = new Due("SubscribeTest");

    public static void main(String[] args) {
        refusedInOrder();
        everyFilterCode();
        fullList();
        changedQos();
        retainedInTopicOrder();
        retainedQualityIsTheSmaller();
        countedWhateverSendDoes();
        retainedEntriesThatDoNotMatch();
        DUE.end();
    }

    private static void refusedInOrder() {
        PubSubBroker x = new PubSubBroker();
        x.connect(0, false);
        Moves.publishThrough(x, 0, 1, 1, 6);
        for (int filter = 1; filter <= 4; filter++) {
            x.subscribe(0, filter + 1, 1);
        }
        int[] before = Seen.all(x);
        for (int c : Seen.wrongClients()) {
            DUE.is("subscribe " + c, x.subscribe(c, 1, 0), PubSubBroker.ERR_CLIENT);
            DUE.is("subscribe " + c, x.subscribe(c, -1, 7), PubSubBroker.ERR_CLIENT);
        }
        DUE.is("link down", x.subscribe(1, 1, 0), PubSubBroker.ERR_STATE);
        DUE.is("link down, wrong filter", x.subscribe(1, 0, 0), PubSubBroker.ERR_STATE);
        DUE.is("link down, wrong qos", x.subscribe(1, 1, 3), PubSubBroker.ERR_STATE);
        int[] wrongQos = {-1, 3, 4, Integer.MIN_VALUE, Integer.MAX_VALUE};
        for (int qos : wrongQos) {
            DUE.is("qos " + qos, x.subscribe(0, 1, qos), PubSubBroker.ERR_ARG);
            DUE.is("qos of a present filter " + qos, x.subscribe(0, 2, qos), PubSubBroker.ERR_ARG);
        }
        int[] wrongFilters = {0, 16, 256, 257, 272, 31, 255, 271, 496, 4081, 4096, 4097, -1, -4095,
            Integer.MIN_VALUE, Integer.MAX_VALUE};
        for (int filter : wrongFilters) {
            DUE.is("filter " + filter, x.subscribe(0, filter, 0), PubSubBroker.ERR_ARG);
        }
        DUE.is("full", x.subscribe(0, 1, 0), PubSubBroker.ERR_FULL);
        DUE.unchanged("subscribe", x, before);
    }

    private static void everyFilterCode() {
        for (int filter = -300; filter < 4500; filter++) {
            PubSubBroker x = new PubSubBroker();
            x.connect(0, true);
            DUE.is("subscribe " + filter, x.subscribe(0, filter, 1), Codes.isFilter(filter) ? 0 : PubSubBroker.ERR_ARG);
            DUE.is("subscriptionQos " + filter, x.subscriptionQos(0, filter), Codes.isFilter(filter) ? 1 : -1);
        }
    }

    private static void fullList() {
        PubSubBroker x = new PubSubBroker();
        x.connect(3, true);
        DUE.is("first", x.subscribe(3, 1, 0), 0);
        DUE.is("second", x.subscribe(3, 225, 1), 0);
        DUE.is("third", x.subscribe(3, 241, 2), 0);
        DUE.is("fourth", x.subscribe(3, 15, 0), 0);
        DUE.is("fifth", x.subscribe(3, 14, 0), PubSubBroker.ERR_FULL);
        DUE.is("a present one", x.subscribe(3, 15, 2), 0);
        DUE.is("its qos", x.subscriptionQos(3, 15), 2);
        DUE.is("another's qos", x.subscriptionQos(3, 225), 1);
        x.unsubscribe(3, 1);
        DUE.is("fifth with room", x.subscribe(3, 14, 0), 0);
    }

    private static void changedQos() {
        PubSubBroker x = new PubSubBroker();
        x.connect(0, true);
        x.subscribe(0, 1, 0);
        x.subscribe(0, 2, 1);
        x.subscribe(0, 1, 2);
        DUE.is("changed", x.subscriptionQos(0, 1), 2);
        DUE.is("kept", x.subscriptionQos(0, 2), 1);
        DUE.yes("unsubscribe", x.unsubscribe(0, 1));
        DUE.is("not there twice", x.subscriptionQos(0, 1), -1);
    }

    /** The qualities 2, 1 and 0 show in the answers of the client in which order the entries were sent. */
    private static void retainedInTopicOrder() {
        int[] topics = {33, 801, 2, 1};
        int[] flags = {5, 6, 6, 4};
        int[] orders = {0, 1, 2, 3, 3, 2, 1, 0, 2, 0, 3, 1, 1, 3, 0, 2};
        for (int first = 0; first < orders.length; first += 4) {
            PubSubBroker x = new PubSubBroker();
            x.connect(1, true);
            for (int i = first; i < first + 4; i++) {
                Moves.publishThrough(x, 1, topics[orders[i]], 1, flags[orders[i]]);
            }
            x.connect(0, true);
            DUE.is("subscribe", x.subscribe(0, 15, 2), 4);
            DUE.is("down", x.pending(0, PubSubBroker.P_DOWN), 4);
            DUE.is("outbox", x.pending(0, PubSubBroker.P_BROKER_OUT), 3);
            DUE.is("topic 1 of quality 0", x.toClient(0), PubSubBroker.PUBLISH);
            DUE.is("no answer to it", x.pending(0, PubSubBroker.P_UP), 0);
            Moves.down(x, 0);
            DUE.is("then 2, 33 and 801", Moves.up(x, 0), "323");
            DUE.is("retainedReceived", x.retainedReceived(0), 4);
            for (int s = 1; s <= 4; s++) {
                DUE.is("received", x.received(0, s), 0);
            }
        }
    }

    private static void retainedQualityIsTheSmaller() {
        for (int q = 0; q <= 2; q++) {
            for (int qos = 0; qos <= 2; qos++) {
                PubSubBroker x = new PubSubBroker();
                x.connect(0, true);
                Moves.publishThrough(x, 0, 1, 1, 4 | q);
                DUE.is("subscribe", x.subscribe(0, 1, qos), 1);
                int quality = Math.min(q, qos);
                DUE.is("outbox", x.pending(0, PubSubBroker.P_BROKER_OUT), quality == 0 ? 0 : 1);
                DUE.is("marked, so no stage", x.brokerStage(0, 1), PubSubBroker.STAGE_NONE);
                DUE.is("toClient", x.toClient(0), PubSubBroker.PUBLISH);
                String answers = quality == 0 ? "" : quality == 1 ? "2" : "3";
                DUE.is("answer", Moves.up(x, 0), answers);
                DUE.is("another subscribe sends again", x.subscribe(0, 1, qos), 1);
            }
        }
    }

    private static void countedWhateverSendDoes() {
        PubSubBroker x = Moves.fullBrokerOutbox(true);
        DUE.is("outbox", x.pending(0, PubSubBroker.P_BROKER_OUT), 16);
        DUE.is("down", x.pending(0, PubSubBroker.P_DOWN), 16);
        DUE.is("overflow before", x.pending(0, PubSubBroker.P_OVERFLOW), 0);
        DUE.is("subscribe with a full outbox", x.subscribe(0, 1, 2), 1);
        DUE.is("qos all the same", x.subscriptionQos(0, 1), 2);
        DUE.is("overflow", x.pending(0, PubSubBroker.P_OVERFLOW), 1);
        DUE.is("down still", x.pending(0, PubSubBroker.P_DOWN), 16);
        for (int i = 17; i <= 32; i++) {
            DUE.is("subscribe with qos 0", x.subscribe(0, 1, 0), 1);
            DUE.is("down", x.pending(0, PubSubBroker.P_DOWN), i);
        }
        DUE.is("subscribe with a full wire", x.subscribe(0, 1, 0), 1);
        DUE.is("down is full", x.pending(0, PubSubBroker.P_DOWN), 32);
        DUE.is("overflow counts outboxes alone", x.pending(0, PubSubBroker.P_OVERFLOW), 1);
        DUE.is("outbox is full", x.pending(0, PubSubBroker.P_BROKER_OUT), 16);
    }

    private static void retainedEntriesThatDoNotMatch() {
        PubSubBroker x = new PubSubBroker();
        x.connect(0, true);
        int[] topics = {1, 33, 49, 801, 2, 34};
        for (int topic : topics) {
            Moves.publishThrough(x, 0, topic, 1, 4);
        }
        DUE.is("topic 1", x.subscribe(0, 1, 0), 1);
        DUE.is("filter 1/+", x.subscribe(0, 225, 0), 2);
        DUE.is("filter 1/#", x.subscribe(0, 241, 0), 4);
        DUE.is("down", x.pending(0, PubSubBroker.P_DOWN), 7);
        x.unsubscribe(0, 1);
        DUE.is("filter +", x.subscribe(0, 14, 0), 2);
        x.unsubscribe(0, 14);
        DUE.is("filter +/2", x.subscribe(0, 46, 0), 2);
        x.unsubscribe(0, 46);
        DUE.is("filter 3", x.subscribe(0, 3, 0), 0);
    }
}
