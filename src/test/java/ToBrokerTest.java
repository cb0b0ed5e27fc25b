/** Promise 7: the moves to the broker, with ACCEPT and SEND. */
public final class ToBrokerTest {
    private static final Due DUE = new Due("ToBrokerTest");

    public static void main(String[] args) {
        nothingToMove();
        oneAtATimeOldestFirst();
        qualityZero();
        qualityOneIsAcceptedEachTime();
        qualityTwoIsAcceptedOnce();
        qualityOfTheGreatestMatch();
        everySessionGetsItOnce();
        linkDown();
        overflow();
        retainedEntries();
        retainedLimit();
        repliesOfTheClient();
        releasedEntryIsNotSentAgain();
        fullDownWire();
        sendComesBeforeReply();
        DUE.end();
    }

    private static void nothingToMove() {
        PubSubBroker x = new PubSubBroker();
        x.connect(0, false);
        x.publish(0, 1, 1, 1);
        x.toBroker(0);
        x.connect(1, false);
        x.publish(1, 1, 1, 1);
        x.disconnect(1);
        int[] before = Seen.all(x);
        for (int c : Seen.wrongClients()) {
            DUE.is("toBroker " + c, x.toBroker(c), PubSubBroker.NONE);
        }
        DUE.is("empty wire", x.toBroker(0), PubSubBroker.NONE);
        DUE.is("link down", x.toBroker(1), PubSubBroker.NONE);
        DUE.is("no session", x.toBroker(2), PubSubBroker.NONE);
        DUE.unchanged("toBroker", x, before);
    }

    private static void oneAtATimeOldestFirst() {
        PubSubBroker x = new PubSubBroker();
        x.connect(0, true);
        for (int s = 1; s <= 24; s++) {
            x.publish(0, 1, 1, 0);
        }
        for (int s = 1; s <= 24; s++) {
            DUE.is("toBroker", x.toBroker(0), PubSubBroker.PUBLISH);
            DUE.is("accepted " + s, x.accepted(s), 1);
            DUE.is("accepted next", x.accepted(s + 1), s == 24 ? -1 : 0);
            DUE.is("up", x.pending(0, PubSubBroker.P_UP), 24 - s);
        }
    }

    private static void qualityZero() {
        PubSubBroker x = new PubSubBroker();
        x.connect(0, true);
        x.subscribe(0, 1, 2);
        x.publish(0, 1, 1, 0);
        DUE.is("toBroker", x.toBroker(0), PubSubBroker.PUBLISH);
        DUE.is("down", x.pending(0, PubSubBroker.P_DOWN), 1);
        DUE.is("no entry", x.pending(0, PubSubBroker.P_BROKER_OUT), 0);
        DUE.is("stage", x.brokerStage(0, 1), PubSubBroker.STAGE_NONE);
        DUE.is("PUBLISH alone", Moves.down(x, 0), "1");
        DUE.is("received", x.received(0, 1), 1);
    }

    private static void qualityOneIsAcceptedEachTime() {
        PubSubBroker x = new PubSubBroker();
        x.connect(0, false);
        x.publish(0, 1, 1, 1);
        for (int times = 1; times <= 3; times++) {
            DUE.is("toBroker", x.toBroker(0), PubSubBroker.PUBLISH);
            DUE.is("accepted", x.accepted(1), times);
            DUE.is("nothing held", x.pending(0, PubSubBroker.P_BROKER_HELD), 0);
            x.disconnect(0);
            x.connect(0, false);
        }
        x.toBroker(0);
        DUE.is("answer", Moves.down(x, 0), "2");
        DUE.is("client outbox", x.pending(0, PubSubBroker.P_CLIENT_OUT), 0);
    }

    private static void qualityTwoIsAcceptedOnce() {
        PubSubBroker x = new PubSubBroker();
        x.connect(0, false);
        x.publish(0, 1, 1, 2);
        for (int times = 1; times <= 3; times++) {
            DUE.is("toBroker", x.toBroker(0), PubSubBroker.PUBLISH);
            DUE.is("accepted", x.accepted(1), 1);
            DUE.is("held", x.pending(0, PubSubBroker.P_BROKER_HELD), 1);
            DUE.is("answered each time", x.pending(0, PubSubBroker.P_DOWN), 1);
            x.disconnect(0);
            x.connect(0, false);
        }
        x.toBroker(0);
        DUE.is("PUBREC", x.toClient(0), PubSubBroker.PUBREC);
        DUE.is("PUBREL", x.toBroker(0), PubSubBroker.PUBREL);
        DUE.is("not held", x.pending(0, PubSubBroker.P_BROKER_HELD), 0);
        x.disconnect(0);
        x.connect(0, false);
        DUE.is("PUBREL again", x.toBroker(0), PubSubBroker.PUBREL);
        DUE.is("PUBCOMP all the same", Moves.down(x, 0), "5");
        DUE.is("client outbox", x.pending(0, PubSubBroker.P_CLIENT_OUT), 0);
        Moves.publishThrough(x, 0, 1, 1, 2);
        DUE.is("the id serves the next serial", x.accepted(2), 1);
    }

    private static void qualityOfTheGreatestMatch() {
        for (int q = 0; q <= 2; q++) {
            for (int low = 0; low <= 2; low++) {
                for (int high = 0; high <= 2; high++) {
                    PubSubBroker x = new PubSubBroker();
                    x.connect(0, true);
                    x.connect(1, true);
                    x.subscribe(0, 225, low);
                    x.subscribe(0, 2, 2);
                    x.subscribe(0, 15, high);
                    x.publish(1, 33, 1, q);
                    x.toBroker(1);
                    int quality = Math.min(q, Math.max(low, high));
                    DUE.is("one packet", x.pending(0, PubSubBroker.P_DOWN), 1);
                    DUE.is("stage", x.brokerStage(0, 1), quality == 0 ? 0 : PubSubBroker.STAGE_PUB);
                    DUE.is("down", Moves.down(x, 0), "1");
                    DUE.is("answer", Moves.up(x, 0), quality == 0 ? "" : quality == 1 ? "2" : "3");
                    DUE.is("received", x.received(0, 1), 1);
                }
            }
        }
    }

    private static void everySessionGetsItOnce() {
        PubSubBroker x = new PubSubBroker();
        for (int c = 0; c < 4; c++) {
            x.connect(c, c % 2 == 0);
        }
        x.subscribe(0, 1, 1);
        x.subscribe(1, 15, 2);
        x.subscribe(3, 2, 2);
        x.publish(2, 1, 1, 2);
        x.toBroker(2);
        DUE.is("stage 0", x.brokerStage(0, 1), PubSubBroker.STAGE_PUB);
        DUE.is("stage 1", x.brokerStage(1, 1), PubSubBroker.STAGE_PUB);
        DUE.is("the publisher has no subscription", x.brokerStage(2, 1), PubSubBroker.STAGE_NONE);
        DUE.is("another topic", x.brokerStage(3, 1), PubSubBroker.STAGE_NONE);
        DUE.is("down 2 is the PUBREC", Moves.down(x, 2), "3");
        DUE.is("down 3", Moves.down(x, 3), "");
        Moves.settle(x);
        for (int c = 0; c < 4; c++) {
            DUE.is("received " + c, x.received(c, 1), c < 2 ? 1 : 0);
        }
    }

    private static void linkDown() {
        PubSubBroker x = new PubSubBroker();
        x.connect(0, false);
        x.subscribe(0, 1, 2);
        x.disconnect(0);
        x.connect(1, true);
        for (int q = 0; q <= 2; q++) {
            x.publish(1, 1, 1, q);
            x.toBroker(1);
        }
        DUE.is("nothing on the wire", x.pending(0, PubSubBroker.P_DOWN), 0);
        DUE.is("quality 0 is gone", x.brokerStage(0, 1), PubSubBroker.STAGE_NONE);
        DUE.is("quality 1 waits", x.brokerStage(0, 2), PubSubBroker.STAGE_PUB);
        DUE.is("quality 2 waits", x.brokerStage(0, 3), PubSubBroker.STAGE_PUB);
        x.connect(0, false);
        DUE.is("resent", Moves.down(x, 0), "11");
        DUE.is("received", "" + x.received(0, 1) + x.received(0, 2) + x.received(0, 3), "011");
    }

    private static void overflow() {
        PubSubBroker x = new PubSubBroker();
        x.connect(0, false);
        x.subscribe(0, 1, 2);
        x.disconnect(0);
        x.connect(1, true);
        for (int s = 1; s <= 16; s++) {
            Moves.publishThrough(x, 1, 1, 1, 1 + s % 2);
            DUE.is("outbox", x.pending(0, PubSubBroker.P_BROKER_OUT), s);
        }
        DUE.is("overflow", x.pending(0, PubSubBroker.P_OVERFLOW), 0);
        Moves.publishThrough(x, 1, 1, 1, 1);
        Moves.publishThrough(x, 1, 1, 1, 2);
        Moves.publishThrough(x, 1, 1, 1, 0);
        DUE.is("overflow", x.pending(0, PubSubBroker.P_OVERFLOW), 2);
        DUE.is("outbox", x.pending(0, PubSubBroker.P_BROKER_OUT), 16);
        DUE.is("accepted all the same", x.accepted(17), 1);
        DUE.is("stage", x.brokerStage(0, 17), PubSubBroker.STAGE_NONE);
        x.connect(0, false);
        DUE.is("down", x.pending(0, PubSubBroker.P_DOWN), 16);
        Moves.publishThrough(x, 1, 1, 1, 0);
        DUE.is("quality 0 needs no room", x.received(0, 20), 1);
        DUE.is("oldest got through", x.received(0, 1), 1);
        DUE.is("newest did not", x.received(0, 18), 0);
        DUE.is("outbox", x.pending(0, PubSubBroker.P_BROKER_OUT), 0);
        DUE.is("overflow is kept", x.pending(0, PubSubBroker.P_OVERFLOW), 2);
    }

    private static void retainedEntries() {
        PubSubBroker x = new PubSubBroker();
        x.connect(0, false);
        x.subscribe(0, 1, 0);
        Moves.publishThrough(x, 0, 1, 7, 0);
        DUE.is("no retain flag", x.retainedSerial(1), 0);
        Moves.publishThrough(x, 0, 1, 0, 4);
        DUE.is("removing none", x.retainedSerial(1), 0);
        Moves.publishThrough(x, 0, 1, 7, 4);
        DUE.is("made", x.retainedSerial(1), 3);
        Moves.publishThrough(x, 0, 1, 0, 0);
        DUE.is("payload 0 without the flag", x.retainedSerial(1), 3);
        Moves.publishThrough(x, 0, 1, -7, 4);
        DUE.is("replaced", x.retainedSerial(1), 5);
        Moves.publishThrough(x, 0, 33, 1, 4);
        Moves.publishThrough(x, 0, 1, 0, 4);
        DUE.is("removed", x.retainedSerial(1), 0);
        DUE.is("another topic stays", x.retainedSerial(33), 6);
        DUE.is("publications of payload 0 are sent", x.received(0, 7), 1);
        DUE.is("live ones carry no mark", x.retainedReceived(0), 0);
        Moves.publishThrough(x, 0, 33, 0, 4);
        DUE.is("the last one removed", x.retainedSerial(33), 0);
        Moves.publishThrough(x, 0, 33, 1, 4);
        DUE.is("made anew", x.retainedSerial(33), 9);

        PubSubBroker y = new PubSubBroker();
        y.connect(0, false);
        y.publish(0, 1, 1, 5);
        y.publish(0, 1, 1, 5);
        Moves.up(y, 0);
        DUE.is("the later", y.retainedSerial(1), 2);
        y.disconnect(0);
        y.connect(0, false);
        y.toBroker(0);
        DUE.is("accepted again, the earlier", y.retainedSerial(1), 1);
    }

    private static void retainedLimit() {
        int[] topics = {5, 3, 801, 33, 4, 1, 49, 2};
        PubSubBroker x = new PubSubBroker();
        x.connect(0, true);
        for (int i = 0; i < 8; i++) {
            Moves.publishThrough(x, 0, topics[i], 1, 4);
        }
        Moves.publishThrough(x, 0, 6, 1, 4);
        DUE.is("no ninth", x.retainedSerial(6), 0);
        DUE.is("accepted all the same", x.accepted(9), 1);
        Moves.publishThrough(x, 0, 33, 1, 4);
        DUE.is("a present one is replaced", x.retainedSerial(33), 10);
        Moves.publishThrough(x, 0, 3, 0, 4);
        DUE.is("one is removed", x.retainedSerial(3), 0);
        Moves.publishThrough(x, 0, 6, 1, 4);
        DUE.is("room again", x.retainedSerial(6), 12);
        Moves.publishThrough(x, 0, 3, 1, 4);
        DUE.is("full again", x.retainedSerial(3), 0);
        int[] serials = {1, 0, 3, 10, 5, 6, 7, 8};
        for (int i = 0; i < 8; i++) {
            DUE.is("retained " + topics[i], x.retainedSerial(topics[i]), serials[i]);
        }
        DUE.is("all eight", x.subscribe(0, 15, 0), 8);
    }

    private static void repliesOfTheClient() {
        PubSubBroker x = new PubSubBroker();
        x.connect(0, true);
        x.connect(1, true);
        x.subscribe(0, 1, 2);
        x.publish(1, 1, 1, 1);
        x.publish(1, 1, 1, 2);
        Moves.up(x, 1);
        Moves.down(x, 0);
        DUE.is("PUBACK", x.toBroker(0), PubSubBroker.PUBACK);
        DUE.is("quality 1 ends", x.brokerStage(0, 1), PubSubBroker.STAGE_NONE);
        DUE.is("outbox", x.pending(0, PubSubBroker.P_BROKER_OUT), 1);
        DUE.is("quality 2 waits", x.brokerStage(0, 2), PubSubBroker.STAGE_PUB);
        DUE.is("PUBREC", x.toBroker(0), PubSubBroker.PUBREC);
        DUE.is("quality 2 is released", x.brokerStage(0, 2), PubSubBroker.STAGE_REL);
        DUE.is("PUBREL", Moves.down(x, 0), "4");
        DUE.is("PUBCOMP", x.toBroker(0), PubSubBroker.PUBCOMP);
        DUE.is("outbox", x.pending(0, PubSubBroker.P_BROKER_OUT), 0);
        DUE.is("no stage left", x.brokerStage(0, 2), PubSubBroker.STAGE_NONE);
        DUE.is("no answer to it", x.pending(0, PubSubBroker.P_DOWN), 0);
    }

    private static void releasedEntryIsNotSentAgain() {
        PubSubBroker x = new PubSubBroker();
        x.connect(0, false);
        x.connect(1, true);
        x.subscribe(0, 1, 2);
        x.publish(1, 1, 1, 2);
        Moves.up(x, 1);
        Moves.down(x, 0);
        Moves.up(x, 0);
        x.disconnect(0);
        x.connect(0, false);
        DUE.is("PUBREL once", Moves.down(x, 0), "4");
        DUE.is("PUBCOMP", Moves.up(x, 0), "5");
        DUE.is("ended", x.pending(0, PubSubBroker.P_BROKER_OUT), 0);
        DUE.is("nothing more", x.pending(0, PubSubBroker.P_DOWN), 0);
    }

    private static void fullDownWire() {
        PubSubBroker x = new PubSubBroker();
        x.connect(0, false);
        Moves.publishThrough(x, 0, 1, 1, 4);
        for (int i = 0; i < 32; i++) {
            x.subscribe(0, 1, 2);
        }
        DUE.is("full", x.pending(0, PubSubBroker.P_DOWN), 32);
        DUE.is("no entries", x.pending(0, PubSubBroker.P_BROKER_OUT), 0);
        x.publish(0, 1, 1, 2);
        x.publish(0, 2, 1, 1);
        x.publish(0, 1, 1, 0);
        DUE.is("moved all the same", Moves.up(x, 0), "111");
        DUE.is("accepted", x.accepted(2) + x.accepted(3) + x.accepted(4), 3);
        DUE.is("entry made", x.brokerStage(0, 2), PubSubBroker.STAGE_PUB);
        DUE.is("held", x.pending(0, PubSubBroker.P_BROKER_HELD), 1);
        DUE.is("full still", x.pending(0, PubSubBroker.P_DOWN), 32);
        DUE.is("the old packets alone", Moves.down(x, 0), "1".repeat(32));
        DUE.is("answers were lost", x.pending(0, PubSubBroker.P_CLIENT_OUT), 2);
        DUE.is("quality 0 was lost", x.received(0, 4), 0);
        x.disconnect(0);
        x.connect(0, false);
        Moves.settle(x);
        DUE.is("client outbox", x.pending(0, PubSubBroker.P_CLIENT_OUT), 0);
        DUE.is("quality 2 once", x.accepted(2), 1);
        DUE.is("quality 1 twice", x.accepted(3), 2);
        DUE.is("received", x.received(0, 2), 1);
    }

    private static void sendComesBeforeReply() {
        PubSubBroker x = new PubSubBroker();
        x.connect(0, true);
        x.subscribe(0, 15, 2);
        x.publish(0, 1, 1, 1);
        x.publish(0, 1, 1, 2);
        Moves.up(x, 0);
        DUE.is("down", Moves.down(x, 0), "1213");
    }
}
