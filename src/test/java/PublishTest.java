/** Promise 6. */
public final class PublishTest {
    private static final Due DUE = new Due("PublishTest");

    public static void main(String[] args) {
        refusedInOrder();
        everyTopicCode();
        everyFlag();
        limitComesBeforeFull();
        brokerIsNotTouched();
        clientOutbox();
        smallestFreeId();
        for (int c = 0; c < 4; c++) {
            idsOfAStalledExchange(c);
        }
        fullWire();
        anyPayload();
        DUE.end();
    }

    private static void refusedInOrder() {
        PubSubBroker x = new PubSubBroker();
        x.connect(0, false);
        for (int i = 0; i < 4; i++) {
            x.publish(0, 1, 1, 1);
        }
        int[] before = Seen.all(x);
        for (int c : Seen.wrongClients()) {
            DUE.is("publish " + c, x.publish(c, 1, 1, 0), PubSubBroker.ERR_CLIENT);
            DUE.is("publish " + c, x.publish(c, 0, 1, 9), PubSubBroker.ERR_CLIENT);
        }
        DUE.is("link down", x.publish(1, 1, 1, 0), PubSubBroker.ERR_STATE);
        DUE.is("link down, wrong topic", x.publish(1, 0, 1, 0), PubSubBroker.ERR_STATE);
        DUE.is("link down, wrong flags", x.publish(1, 1, 1, 3), PubSubBroker.ERR_STATE);
        DUE.is("wrong topic, full outbox", x.publish(0, 14, 1, 1), PubSubBroker.ERR_ARG);
        DUE.is("wrong flags, full outbox", x.publish(0, 1, 1, 7), PubSubBroker.ERR_ARG);
        DUE.is("full outbox, quality 1", x.publish(0, 1, 1, 1), PubSubBroker.ERR_FULL);
        DUE.is("full outbox, quality 2", x.publish(0, 1, 1, 2), PubSubBroker.ERR_FULL);
        DUE.is("full outbox, quality 1 retained", x.publish(0, 1, 1, 5), PubSubBroker.ERR_FULL);
        DUE.is("full outbox, quality 2 retained", x.publish(0, 1, 1, 6), PubSubBroker.ERR_FULL);
        DUE.unchanged("publish", x, before);
        DUE.is("no serial was used", x.publish(0, 1, 1, 0), 5);
    }

    private static void everyTopicCode() {
        for (int topic = -300; topic < 4500; topic++) {
            PubSubBroker x = new PubSubBroker();
            x.connect(0, true);
            DUE.is("publish " + topic, x.publish(0, topic, 1, 0), Codes.isTopic(topic) ? 1 : PubSubBroker.ERR_ARG);
        }
        PubSubBroker x = new PubSubBroker();
        x.connect(0, true);
        DUE.is("least int", x.publish(0, Integer.MIN_VALUE + 1, 1, 0), PubSubBroker.ERR_ARG);
        DUE.is("greatest int", x.publish(0, Integer.MAX_VALUE, 1, 0), PubSubBroker.ERR_ARG);
        DUE.is("33 and a bit above", x.publish(0, 33 + 4096, 1, 0), PubSubBroker.ERR_ARG);
    }

    private static void everyFlag() {
        for (int flags = -70; flags <= 70; flags++) {
            PubSubBroker x = new PubSubBroker();
            x.connect(0, true);
            boolean valid = flags >= 0 && flags <= 6 && flags != 3;
            DUE.is("flags " + flags, x.publish(0, 1, 1, flags), valid ? 1 : PubSubBroker.ERR_ARG);
            if (valid) {
                boolean withEntry = flags % 4 != 0;
                DUE.is("outbox for flags " + flags, x.pending(0, PubSubBroker.P_CLIENT_OUT), withEntry ? 1 : 0);
                Moves.up(x, 0);
                DUE.is("retained for flags " + flags, x.retainedSerial(1), flags >= 4 ? 1 : 0);
                String answer = flags % 4 == 0 ? "" : flags % 4 == 1 ? "2" : "3";
                DUE.is("answer for flags " + flags, Moves.down(x, 0), answer);
            }
        }
        PubSubBroker x = new PubSubBroker();
        x.connect(0, true);
        DUE.is("least int", x.publish(0, 1, 1, Integer.MIN_VALUE), PubSubBroker.ERR_ARG);
        DUE.is("greatest int", x.publish(0, 1, 1, Integer.MAX_VALUE), PubSubBroker.ERR_ARG);
    }

    private static void limitComesBeforeFull() {
        PubSubBroker x = new PubSubBroker();
        x.connect(0, true);
        x.connect(1, true);
        for (int s = 1; s <= 20; s++) {
            DUE.is("publish", x.publish(s % 2, 1, 1, 0), s);
        }
        for (int s = 21; s <= 24; s++) {
            DUE.is("publish", x.publish(0, 1, 1, 2), s);
        }
        int[] before = Seen.all(x);
        DUE.is("limit, full outbox", x.publish(0, 1, 1, 1), PubSubBroker.ERR_LIMIT);
        DUE.is("limit, quality 0", x.publish(0, 1, 1, 0), PubSubBroker.ERR_LIMIT);
        DUE.is("limit, other client", x.publish(1, 1, 1, 1), PubSubBroker.ERR_LIMIT);
        DUE.is("limit, wrong topic", x.publish(1, 14, 1, 1), PubSubBroker.ERR_ARG);
        DUE.is("limit, wrong flags", x.publish(1, 1, 1, 3), PubSubBroker.ERR_ARG);
        DUE.is("limit, link down", x.publish(2, 1, 1, 1), PubSubBroker.ERR_STATE);
        DUE.unchanged("publish", x, before);
    }

    private static void brokerIsNotTouched() {
        PubSubBroker x = new PubSubBroker();
        x.connect(0, true);
        x.subscribe(0, 15, 2);
        x.publish(0, 1, 1, 6);
        x.publish(0, 1, 1, 4);
        DUE.is("accepted", x.accepted(1) + x.accepted(2), 0);
        DUE.is("retained", x.retainedSerial(1), 0);
        DUE.is("broker outbox", x.pending(0, PubSubBroker.P_BROKER_OUT), 0);
        DUE.is("down", x.pending(0, PubSubBroker.P_DOWN), 0);
        DUE.is("up", x.pending(0, PubSubBroker.P_UP), 2);
        DUE.is("client outbox", x.pending(0, PubSubBroker.P_CLIENT_OUT), 1);
    }

    private static void clientOutbox() {
        PubSubBroker x = new PubSubBroker();
        x.connect(0, true);
        x.connect(1, true);
        for (int i = 1; i <= 4; i++) {
            DUE.is("publish", x.publish(0, 1, 1, 1 + i % 2), i);
            DUE.is("outbox", x.pending(0, PubSubBroker.P_CLIENT_OUT), i);
        }
        DUE.is("another client has room", x.publish(1, 1, 1, 1), 5);
        DUE.is("quality 0 needs none", x.publish(0, 1, 1, 0), 6);
        DUE.is("retained quality 0 needs none", x.publish(0, 1, 1, 4), 7);
        DUE.is("full", x.publish(0, 1, 1, 1), PubSubBroker.ERR_FULL);
        Moves.settle(x);
        DUE.is("outbox", x.pending(0, PubSubBroker.P_CLIENT_OUT), 0);
        DUE.is("room again", x.publish(0, 1, 1, 1), 8);
    }

    /** The id shows in the broker's HELD set: a serial under an id that is held there is not accepted. */
    private static void smallestFreeId() {
        PubSubBroker x = new PubSubBroker();
        x.connect(0, true);
        x.publish(0, 1, 1, 1);
        x.publish(0, 1, 1, 2);
        x.publish(0, 1, 1, 1);
        x.publish(0, 1, 1, 1);
        Moves.up(x, 0);
        DUE.is("held id 2", x.pending(0, PubSubBroker.P_BROKER_HELD), 1);
        Moves.down(x, 0);
        DUE.is("only id 2 is used", x.pending(0, PubSubBroker.P_CLIENT_OUT), 1);
        x.publish(0, 1, 1, 2);
        x.publish(0, 1, 1, 2);
        x.publish(0, 1, 1, 2);
        DUE.is("PUBREL and three", Moves.up(x, 0), "4111");
        DUE.is("ids 1, 3, 4", x.pending(0, PubSubBroker.P_BROKER_HELD), 3);
        Moves.down(x, 0);
        DUE.is("all but one wait", x.pending(0, PubSubBroker.P_CLIENT_OUT), 3);
        Moves.settle(x);
        for (int s = 1; s <= 7; s++) {
            DUE.is("accepted " + s, x.accepted(s), 1);
        }
    }

    /** With its PUBREC lost on a full wire, serial 3 keeps id 2 held at the broker: no later serial may take it. */
    private static void idsOfAStalledExchange(int c) {
        PubSubBroker x = new PubSubBroker();
        x.connect(c, true);
        Moves.publishThrough(x, c, 1, 1, 4);
        x.publish(c, 2, 1, 1);
        x.publish(c, 2, 1, 2);
        x.toBroker(c);
        x.toClient(c);
        x.publish(c, 2, 1, 1);
        for (int i = 0; i < 32; i++) {
            x.subscribe(c, 1, 0);
        }
        DUE.is("serial 3", x.toBroker(c), PubSubBroker.PUBLISH);
        DUE.is("PUBREC is lost", Moves.down(x, c), "1".repeat(32));
        DUE.is("serial 4", Moves.up(x, c), "1");
        DUE.is("ends", Moves.down(x, c), "2");
        DUE.is("serial 3 stays", x.pending(c, PubSubBroker.P_CLIENT_OUT), 1);
        for (int s = 5; s <= 7; s++) {
            DUE.is("publish", x.publish(c, 2, 1, 2), s);
        }
        DUE.is("no more", x.publish(c, 2, 1, 2), PubSubBroker.ERR_FULL);
        Moves.up(x, c);
        DUE.is("four ids are held", x.pending(c, PubSubBroker.P_BROKER_HELD), 4);
        for (int s = 3; s <= 7; s++) {
            DUE.is("accepted " + s, x.accepted(s), 1);
        }
    }

    private static void fullWire() {
        PubSubBroker x = Moves.fullBrokerOutbox(false);
        Moves.down(x, 0);
        DUE.is("sixteen answers wait", x.pending(0, PubSubBroker.P_UP), 16);
        for (int s = 2; s <= 17; s++) {
            x.publish(0, 2, 1, 0);
        }
        DUE.is("up is full", x.pending(0, PubSubBroker.P_UP), 32);
        DUE.is("quality 0 is lost", x.publish(0, 2, 1, 0), 18);
        DUE.is("quality 1 waits", x.publish(0, 2, 1, 1), 19);
        DUE.is("up is full still", x.pending(0, PubSubBroker.P_UP), 32);
        DUE.is("outbox", x.pending(0, PubSubBroker.P_CLIENT_OUT), 1);
        Moves.up(x, 0);
        DUE.is("17 was on the wire", x.accepted(17), 1);
        DUE.is("18 was not", x.accepted(18), 0);
        DUE.is("19 was not", x.accepted(19), 0);
        x.disconnect(0);
        x.connect(0, false);
        Moves.settle(x);
        DUE.is("18 is lost", x.accepted(18), 0);
        DUE.is("19 is sent again", x.accepted(19), 1);
    }

    private static void anyPayload() {
        int[] payloads = {0, 1, -1, Integer.MIN_VALUE, Integer.MAX_VALUE};
        for (int payload : payloads) {
            PubSubBroker x = new PubSubBroker();
            x.connect(0, true);
            DUE.is("publish " + payload, x.publish(0, 1, payload, 4), 1);
            x.toBroker(0);
            DUE.is("retained " + payload, x.retainedSerial(1), payload == 0 ? 0 : 1);
        }
    }
}
