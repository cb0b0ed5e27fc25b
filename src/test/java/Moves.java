/** Moves of many packets at once; the answers are the kinds of the moved packets, a digit each. */
final class Moves {
    private Moves() {
    }

    static String up(PubSubBroker x, int c) {
        StringBuilder kinds = new StringBuilder();
        for (int kind = x.toBroker(c); kind != PubSubBroker.NONE; kind = x.toBroker(c)) {
            kinds.append(kind);
        }
        return kinds.toString();
    }

    static String down(PubSubBroker x, int c) {
        StringBuilder kinds = new StringBuilder();
        for (int kind = x.toClient(c); kind != PubSubBroker.NONE; kind = x.toClient(c)) {
            kinds.append(kind);
        }
        return kinds.toString();
    }

    /** Moves packets until every wire is empty. */
    static void settle(PubSubBroker x) {
        boolean moved = true;
        while (moved) {
            moved = false;
            for (int c = 0; c < PubSubBroker.CLIENTS; c++) {
                moved |= !up(x, c).isEmpty();
                moved |= !down(x, c).isEmpty();
            }
        }
    }

    /** Publishes by c and lets the exchange with the broker end, so that the serial is accepted. */
    static int publishThrough(PubSubBroker x, int c, int topic, int payload, int flags) {
        int s = x.publish(c, topic, payload, flags);
        settle(x);
        return s;
    }

    /** Publishes by c and ends its exchange with the broker; packets to other clients stay on their wires. */
    static int publishThroughBroker(PubSubBroker x, int c, int topic, int quality) {
        int s = x.publish(c, topic, 1, quality);
        for (boolean moved = true; moved;) {
            moved = !up(x, c).isEmpty() | !down(x, c).isEmpty();
        }
        return s;
    }

    /**
     * Connects 0 and 1; 0 subscribes to topic 1 until its broker outbox is full of marked entries of quality 1
     * (serial 1, published and retained by client 1) and DOWN(0) holds their sixteen PUBLISH packets.
     */
    static PubSubBroker fullBrokerOutbox(boolean clean) {
        PubSubBroker x = new PubSubBroker();
        x.connect(0, clean);
        x.connect(1, true);
        publishThrough(x, 1, 1, 5, 5);
        for (int i = 0; i < PubSubBroker.BROKER_OUT; i++) {
            x.subscribe(0, 1, 1);
        }
        return x;
    }
}
