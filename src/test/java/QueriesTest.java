/** Promises 9 to 16: the edges of the queries, and that they change nothing. */
public final class QueriesTest {
    private static final Due DUE = new Due("QueriesTest");
    private static final int[] WRONG_SERIALS = {0, -1, 25, 26, 1000, Integer.MIN_VALUE, Integer.MAX_VALUE};

    public static void main(String[] args) {
        PubSubBroker x = busyBroker();
        int[] before = Seen.all(x);
        received(x);
        retainedReceived(x);
        accepted(x);
        retainedSerial(x);
        brokerStage(x);
        pending(x);
        subscriptionQos(x);
        status(x);
        DUE.unchanged("the queries", x, before);
        oldestUnmarkedStage();
        stagesOfTheSameSerial();
        DUE.end();
    }

    /** 0: persistent, up; 1: clean, up; 2: persistent, down; 3: never connected. */
    private static PubSubBroker busyBroker() {
        PubSubBroker x = new PubSubBroker();
        x.connect(0, false);
        x.connect(1, true);
        x.connect(2, false);
        x.subscribe(2, 3809, 0);
        x.disconnect(2);
        Moves.publishThrough(x, 1, 1, 9, 6);
        x.subscribe(0, 1, 0);
        x.toClient(0);
        x.subscribe(0, 33, 2);
        x.subscribe(0, 15, 1);
        x.publish(1, 33, 9, 1);
        x.publish(1, 33, 9, 2);
        Moves.up(x, 1);
        x.toClient(0);
        x.toClient(0);
        x.toClient(0);
        x.toBroker(0);
        x.toBroker(0);
        x.toBroker(0);
        x.publish(0, 2, 9, 2);
        x.toBroker(0);
        x.publish(0, 2, 9, 1);
        x.publish(0, 2, 9, 0);
        return x;
    }

    private static void received(PubSubBroker x) {
        for (int c : Seen.wrongClients()) {
            DUE.is("received " + c, x.received(c, 1), -1);
            DUE.is("received " + c, x.received(c, 0), -1);
        }
        for (int s : WRONG_SERIALS) {
            for (int c = 0; c < 4; c++) {
                DUE.is("received of " + s, x.received(c, s), -1);
            }
        }
        DUE.is("marked ones", x.received(0, 1), 0);
        DUE.is("serial 2", x.received(0, 2), 1);
        DUE.is("serial 3", x.received(0, 3), 1);
        DUE.is("another client", x.received(1, 2), 0);
        DUE.is("not yet given", x.received(0, 7), 0);
        DUE.is("the last", x.received(3, 24), 0);
    }

    private static void retainedReceived(PubSubBroker x) {
        for (int c : Seen.wrongClients()) {
            DUE.is("retainedReceived " + c, x.retainedReceived(c), -1);
        }
        int[] due = {2, 0, 0, 0};
        for (int c = 0; c < 4; c++) {
            DUE.is("retainedReceived " + c, x.retainedReceived(c), due[c]);
        }
    }

    private static void accepted(PubSubBroker x) {
        for (int s : WRONG_SERIALS) {
            DUE.is("accepted " + s, x.accepted(s), -1);
        }
        int[] due = {1, 1, 1, 1, 0, 0, 0};
        for (int s = 1; s <= 7; s++) {
            DUE.is("accepted " + s, x.accepted(s), due[s - 1]);
        }
        DUE.is("the last", x.accepted(24), 0);
    }

    private static void retainedSerial(PubSubBroker x) {
        DUE.is("topic 1", x.retainedSerial(1), 1);
        int[] others = {0, 2, 33, 16, 257, 15, 14, 4095, 4096, 4097, -1, 1 - 4096, Integer.MIN_VALUE,
            Integer.MAX_VALUE};
        for (int topic : others) {
            DUE.is("topic " + topic, x.retainedSerial(topic), 0);
        }
    }

    private static void brokerStage(PubSubBroker x) {
        for (int c : Seen.wrongClients()) {
            DUE.is("brokerStage " + c, x.brokerStage(c, 1), -1);
            DUE.is("brokerStage " + c, x.brokerStage(c, 0), -1);
        }
        for (int s : WRONG_SERIALS) {
            for (int c = 0; c < 4; c++) {
                DUE.is("brokerStage of " + s, x.brokerStage(c, s), -1);
            }
        }
        DUE.is("ended", x.brokerStage(0, 2), PubSubBroker.STAGE_NONE);
        DUE.is("released", x.brokerStage(0, 3), PubSubBroker.STAGE_REL);
        DUE.is("sent", x.brokerStage(0, 4), PubSubBroker.STAGE_PUB);
        DUE.is("not yet accepted", x.brokerStage(0, 5), PubSubBroker.STAGE_NONE);
        DUE.is("another client", x.brokerStage(1, 3), PubSubBroker.STAGE_NONE);
        DUE.is("the last", x.brokerStage(3, 24), PubSubBroker.STAGE_NONE);
    }

    private static void pending(PubSubBroker x) {
        for (int c : Seen.wrongClients()) {
            for (int which = -1; which <= 7; which++) {
                DUE.is("pending " + c, x.pending(c, which), -1);
            }
        }
        int[] wrong = {-1, 7, 8, Integer.MIN_VALUE, Integer.MAX_VALUE};
        for (int which : wrong) {
            for (int c = 0; c < 4; c++) {
                DUE.is("pending of " + which, x.pending(c, which), -1);
            }
        }
        int[][] due = {{2, 2, 1, 1, 2, 3, 0}, {2, 0, 0, 1, 0, 2, 0}, {0, 0, 0, 0, 0, 0, 0}, {0, 0, 0, 0, 0, 0, 0}};
        for (int c = 0; c < 4; c++) {
            for (int which = 0; which <= 6; which++) {
                DUE.is("pending(" + c + ", " + which + ")", x.pending(c, which), due[c][which]);
            }
        }
    }

    private static void subscriptionQos(PubSubBroker x) {
        for (int c : Seen.wrongClients()) {
            DUE.is("subscriptionQos " + c, x.subscriptionQos(c, 1), -1);
        }
        DUE.is("filter 1", x.subscriptionQos(0, 1), 0);
        DUE.is("filter 33", x.subscriptionQos(0, 33), 2);
        DUE.is("filter #", x.subscriptionQos(0, 15), 1);
        DUE.is("kept while down", x.subscriptionQos(2, 3809), 0);
        DUE.is("another client's", x.subscriptionQos(1, 1), -1);
        int[] others = {0, 2, 225, 241, 14, 1 + 4096, -1, Integer.MIN_VALUE, Integer.MAX_VALUE};
        for (int filter : others) {
            DUE.is("filter " + filter, x.subscriptionQos(0, filter), -1);
        }
    }

    private static void status(PubSubBroker x) {
        for (int c : Seen.wrongClients()) {
            DUE.is("status " + c, x.status(c), -1);
        }
        int[] due = {7, 3, 6, 0};
        for (int c = 0; c < 4; c++) {
            DUE.is("status " + c, x.status(c), due[c]);
        }
    }

    private static void oldestUnmarkedStage() {
        PubSubBroker x = new PubSubBroker();
        x.connect(0, true);
        x.connect(1, true);
        Moves.publishThrough(x, 1, 1, 1, 6);
        x.subscribe(0, 1, 2);
        DUE.is("a marked entry does not count", x.brokerStage(0, 1), PubSubBroker.STAGE_NONE);
        Moves.settle(x);
        x.publish(1, 1, 1, 6);
        x.toBroker(1);
        Moves.down(x, 0);
        Moves.up(x, 0);
        x.subscribe(0, 1, 2);
        DUE.is("the unmarked one", x.brokerStage(0, 2), PubSubBroker.STAGE_REL);
    }

    /** A serial of quality 1 that is accepted twice makes two entries; the oldest one tells. */
    private static void stagesOfTheSameSerial() {
        PubSubBroker x = new PubSubBroker();
        x.connect(1, false);
        x.connect(0, false);
        x.subscribe(0, 1, 1);
        x.publish(1, 1, 1, 1);
        x.toBroker(1);
        x.disconnect(1);
        x.connect(1, false);
        x.toBroker(1);
        DUE.is("two entries", x.pending(0, PubSubBroker.P_BROKER_OUT), 2);
        x.toClient(0);
        x.toBroker(0);
        DUE.is("one has ended", x.pending(0, PubSubBroker.P_BROKER_OUT), 1);
        DUE.is("the other tells", x.brokerStage(0, 1), PubSubBroker.STAGE_PUB);
    }
}
