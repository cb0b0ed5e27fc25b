/** The edges of the handling of a packet and of RESEND, sentence by sentence, at the broker and at every client. */
public final class HandlingEdgeTest {
    private static final Due DUE = new Due("HandlingEdgeTest");
    private static final int CLIENT_OUT = PubSubBroker.P_CLIENT_OUT;
    private static final int BROKER_OUT = PubSubBroker.P_BROKER_OUT;
    private static final int CLIENT_HELD = PubSubBroker.P_CLIENT_HELD;
    private static final int BROKER_HELD = PubSubBroker.P_BROKER_HELD;
    private static final int UP = PubSubBroker.P_UP;
    private static final int DOWN = PubSubBroker.P_DOWN;

    public static void main(String[] args) {
        for (int c = 0; c < 4; c++) {
            handling(c, (c + 1) % 4);
            resending(c, (c + 1) % 4);
        }
        DUE.end();
    }

    private static void handling(int c, int other) {
        DUE.sentence("'Reply' means put on the other wire of the same link.", () -> repliesStayOnTheLink(c));
        DUE.sentence("PUBLISH of quality 0: take. (broker)", () -> qualityZeroAtBroker(c));
        DUE.sentence("PUBLISH of quality 0: take. (client)", () -> qualityZeroAtClient(c, other));
        DUE.sentence("PUBLISH of quality 1: take, then reply PUBACK(id). (broker)", () -> qualityOneAtBroker(c));
        DUE.sentence("PUBLISH of quality 1: take, then reply PUBACK(id). (client)", () -> qualityOneAtClient(c, other));
        DUE.sentence("PUBLISH of quality 2: if id is not in this side's HELD set, add it and take; then, in either "
                + "case, reply PUBREC(id). (broker)", () -> qualityTwoAtBroker(c));
        DUE.sentence("PUBLISH of quality 2: if id is not in this side's HELD set, add it and take; then, in either "
                + "case, reply PUBREC(id). (client)", () -> qualityTwoAtClient(c, other));
        DUE.sentence("PUBACK(id): this side's outbox entry with that id, if it has quality 1 and STAGE_PUB, is "
                + "removed. (broker)", () -> pubackAtBroker(c, other));
        DUE.sentence("PUBACK(id): this side's outbox entry with that id, if it has quality 1 and STAGE_PUB, is "
                + "removed. (client)", () -> pubackAtClient(c));
        DUE.sentence("PUBREC(id): the entry with that id, if it has quality 2 and STAGE_PUB, gets STAGE_REL and "
                + "PUBREL(id) is replied. (broker)", () -> pubrecAtBroker(c, other));
        DUE.sentence("PUBREC(id): the entry with that id, if it has quality 2 and STAGE_PUB, gets STAGE_REL and "
                + "PUBREL(id) is replied. (client)", () -> pubrecAtClient(c));
        DUE.sentence("PUBREL(id): id leaves HELD if it is there; then reply PUBCOMP(id). (broker)",
                () -> pubrelAtBroker(c));
        DUE.sentence("PUBREL(id): id leaves HELD if it is there; then reply PUBCOMP(id). (client)",
                () -> pubrelAtClient(c, other));
        DUE.sentence("PUBCOMP(id): the entry with that id, if it is at STAGE_REL, is removed. (broker)",
                () -> pubcompAtBroker(c, other));
        DUE.sentence("PUBCOMP(id): the entry with that id, if it is at STAGE_REL, is removed. (client)",
                () -> pubcompAtClient(c));
        DUE.sentence("At the broker, 'this side' means the broker's outbox and HELD set for c.",
                () -> sidesOfTheBroker(c, other));
    }

    private static void resending(int c, int other) {
        DUE.sentence("RESEND of a side: for each entry of that side's outbox (none)", () -> resendOfNothing(c));
        DUE.sentence("RESEND of a side: for each entry of that side's outbox, oldest first, a packet is put on the "
                + "side's outgoing wire (full outboxes)", () -> resendOfFullOutboxes(c, other));
        DUE.sentence("an entry at STAGE_PUB puts PUBLISH(id, s, e, r)", () -> resendAtStagePub(c, other));
        DUE.sentence("an entry at STAGE_REL puts PUBREL(id)", () -> resendAtStageRel(c, other));
        DUE.sentence("The outbox itself does not change.", () -> resendKeepsOutboxes(c, other));
    }

    /** Client c is persistent and subscribes to topic 1 with qos 2; other is clean and has no subscription. */
    private static PubSubBroker pair(int c, int other) {
        PubSubBroker x = new PubSubBroker();
        x.connect(c, false);
        x.connect(other, true);
        x.subscribe(c, 1, 2);
        return x;
    }

    private static void drop(PubSubBroker x, int c) {
        x.disconnect(c);
        x.connect(c, false);
    }

    private static void repliesStayOnTheLink(int c) {
        PubSubBroker x = new PubSubBroker();
        for (int d = 0; d < 4; d++) {
            x.connect(d, true);
        }
        x.publish(c, 1, 1, 1);
        x.publish(c, 1, 1, 2);
        Moves.up(x, c);
        for (int d = 0; d < 4; d++) {
            DUE.is("down " + d, x.pending(d, DOWN), d == c ? 2 : 0);
            DUE.is("up " + d, x.pending(d, UP), 0);
        }
        Moves.down(x, c);
        for (int d = 0; d < 4; d++) {
            DUE.is("up " + d, x.pending(d, UP), d == c ? 1 : 0);
            DUE.is("down " + d, x.pending(d, DOWN), 0);
        }
    }

    private static void qualityZeroAtBroker(int c) {
        PubSubBroker x = new PubSubBroker();
        x.connect(c, false);
        x.publish(c, 1, 1, 0);
        x.toBroker(c);
        DUE.is("accepted", x.accepted(1), 1);
        DUE.is("no reply", x.pending(c, DOWN), 0);
        DUE.is("not held", x.pending(c, BROKER_HELD), 0);
        drop(x, c);
        DUE.is("not sent again", x.pending(c, UP), 0);
    }

    private static void qualityZeroAtClient(int c, int other) {
        PubSubBroker x = pair(c, other);
        Moves.publishThroughBroker(x, other, 1, 0);
        x.toClient(c);
        DUE.is("received", x.received(c, 1), 1);
        DUE.is("no reply", x.pending(c, UP), 0);
        DUE.is("not held", x.pending(c, CLIENT_HELD), 0);
        drop(x, c);
        DUE.is("not sent again", x.pending(c, DOWN), 0);
    }

    private static void qualityOneAtBroker(int c) {
        PubSubBroker x = new PubSubBroker();
        x.connect(c, false);
        x.subscribe(c, 1, 0);
        x.publish(c, 1, 1, 1);
        for (int times = 1; times <= 3; times++) {
            x.toBroker(c);
            DUE.is("taken each time", x.accepted(1), times);
            DUE.is("not held", x.pending(c, BROKER_HELD), 0);
            DUE.is("a SEND and a reply", x.pending(c, DOWN), 2);
            if (times < 3) {
                drop(x, c);
            }
        }
        DUE.is("the SEND, then the reply", Moves.down(x, c), "12");
        DUE.is("the reply ended it", x.pending(c, CLIENT_OUT), 0);
    }

    private static void qualityOneAtClient(int c, int other) {
        PubSubBroker x = pair(c, other);
        Moves.publishThroughBroker(x, other, 1, 1);
        for (int times = 1; times <= 3; times++) {
            x.toClient(c);
            DUE.is("taken each time", x.received(c, 1), times);
            DUE.is("not held", x.pending(c, CLIENT_HELD), 0);
            DUE.is("a reply", x.pending(c, UP), 1);
            if (times < 3) {
                drop(x, c);
            }
        }
        DUE.is("PUBACK", Moves.up(x, c), "2");
        DUE.is("ended", x.pending(c, BROKER_OUT), 0);
    }

    private static void qualityTwoAtBroker(int c) {
        PubSubBroker x = new PubSubBroker();
        x.connect(c, false);
        x.subscribe(c, 1, 0);
        x.publish(c, 1, 1, 2);
        DUE.is("not held before", x.pending(c, BROKER_HELD), 0);
        x.toBroker(c);
        DUE.is("held", x.pending(c, BROKER_HELD), 1);
        DUE.is("taken", x.accepted(1), 1);
        DUE.is("the SEND, then the reply", Moves.down(x, c), "13");
        PubSubBroker y = new PubSubBroker();
        y.connect(c, false);
        y.publish(c, 1, 1, 2);
        for (int times = 1; times <= 3; times++) {
            y.toBroker(c);
            DUE.is("taken once", y.accepted(1), 1);
            DUE.is("held once", y.pending(c, BROKER_HELD), 1);
            DUE.is("a reply each time", y.pending(c, DOWN), 1);
            if (times < 3) {
                drop(y, c);
            }
        }
        DUE.is("PUBREC", Moves.down(y, c), "3");
    }

    private static void qualityTwoAtClient(int c, int other) {
        PubSubBroker x = pair(c, other);
        Moves.publishThroughBroker(x, other, 1, 2);
        DUE.is("not held before", x.pending(c, CLIENT_HELD), 0);
        for (int times = 1; times <= 3; times++) {
            x.toClient(c);
            DUE.is("taken once", x.received(c, 1), 1);
            DUE.is("held once", x.pending(c, CLIENT_HELD), 1);
            DUE.is("a reply each time", x.pending(c, UP), 1);
            if (times < 3) {
                drop(x, c);
            }
        }
        DUE.is("PUBREC", Moves.up(x, c), "3");
    }

    /** The entries of the others, one of each quality and stage, must stay. */
    private static void pubackAtBroker(int c, int other) {
        PubSubBroker x = pair(c, other);
        Moves.publishThroughBroker(x, other, 1, 2);
        Moves.publishThroughBroker(x, other, 1, 1);
        Moves.publishThroughBroker(x, other, 1, 1);
        Moves.down(x, c);
        x.toBroker(c);
        DUE.is("PUBACK", x.toBroker(c), PubSubBroker.PUBACK);
        DUE.is("its entry ends", x.brokerStage(c, 2), PubSubBroker.STAGE_NONE);
        DUE.is("an older one stays", x.brokerStage(c, 1), PubSubBroker.STAGE_REL);
        DUE.is("a newer one stays", x.brokerStage(c, 3), PubSubBroker.STAGE_PUB);
        DUE.is("entries", x.pending(c, BROKER_OUT), 2);
        DUE.is("no reply beside PUBREL", x.pending(c, DOWN), 1);
    }

    private static void pubackAtClient(int c) {
        PubSubBroker x = new PubSubBroker();
        x.connect(c, false);
        x.publish(c, 1, 1, 2);
        x.publish(c, 1, 1, 1);
        x.publish(c, 1, 1, 1);
        Moves.up(x, c);
        x.toClient(c);
        DUE.is("PUBACK", x.toClient(c), PubSubBroker.PUBACK);
        DUE.is("one entry ends", x.pending(c, CLIENT_OUT), 2);
        DUE.is("no reply beside PUBREL", x.pending(c, UP), 1);
        drop(x, c);
        DUE.is("the others are there, oldest first", Moves.up(x, c), "41");
        DUE.is("serial 2 ended", x.accepted(2), 1);
        DUE.is("serial 3 came again", x.accepted(3), 2);
    }

    private static void pubrecAtBroker(int c, int other) {
        PubSubBroker x = pair(c, other);
        for (int s = 1; s <= 3; s++) {
            Moves.publishThroughBroker(x, other, 1, 2);
        }
        x.toClient(c);
        x.toClient(c);
        x.toBroker(c);
        DUE.is("PUBREC", x.toBroker(c), PubSubBroker.PUBREC);
        DUE.is("released", x.brokerStage(c, 2), PubSubBroker.STAGE_REL);
        DUE.is("not this one", x.brokerStage(c, 3), PubSubBroker.STAGE_PUB);
        DUE.is("the entries stay", x.pending(c, BROKER_OUT), 3);
        DUE.is("PUBREL", Moves.down(x, c), "144");
        DUE.is("with the ids of the released", x.pending(c, CLIENT_HELD), 1);
    }

    private static void pubrecAtClient(int c) {
        PubSubBroker x = new PubSubBroker();
        x.connect(c, false);
        for (int s = 1; s <= 3; s++) {
            x.publish(c, 1, 1, 2);
        }
        x.toBroker(c);
        x.toBroker(c);
        x.toClient(c);
        DUE.is("PUBREC", x.toClient(c), PubSubBroker.PUBREC);
        DUE.is("the entries stay", x.pending(c, CLIENT_OUT), 3);
        DUE.is("PUBREL behind the third", Moves.up(x, c), "144");
        DUE.is("with the ids of the released", x.pending(c, BROKER_HELD), 1);
        drop(x, c);
        DUE.is("two at STAGE_REL", Moves.up(x, c), "441");
    }

    private static void pubrelAtBroker(int c) {
        PubSubBroker x = new PubSubBroker();
        x.connect(c, false);
        x.publish(c, 1, 1, 2);
        x.publish(c, 1, 1, 2);
        Moves.up(x, c);
        Moves.down(x, c);
        DUE.is("held", x.pending(c, BROKER_HELD), 2);
        DUE.is("PUBREL", x.toBroker(c), PubSubBroker.PUBREL);
        DUE.is("one leaves", x.pending(c, BROKER_HELD), 1);
        DUE.is("reply", x.pending(c, DOWN), 1);
        drop(x, c);
        DUE.is("PUBREL of an id that is not held", x.toBroker(c), PubSubBroker.PUBREL);
        DUE.is("the other stays", x.pending(c, BROKER_HELD), 1);
        DUE.is("reply all the same", Moves.down(x, c), "5");
        DUE.is("its entry ends", x.pending(c, CLIENT_OUT), 1);
        x.publish(c, 1, 1, 2);
        Moves.settle(x);
        DUE.is("the id is taken anew", x.accepted(3), 1);
        DUE.is("none held", x.pending(c, BROKER_HELD), 0);
    }

    private static void pubrelAtClient(int c, int other) {
        PubSubBroker x = pair(c, other);
        Moves.publishThroughBroker(x, other, 1, 2);
        Moves.publishThroughBroker(x, other, 1, 2);
        Moves.down(x, c);
        Moves.up(x, c);
        DUE.is("held", x.pending(c, CLIENT_HELD), 2);
        DUE.is("PUBREL", x.toClient(c), PubSubBroker.PUBREL);
        DUE.is("one leaves", x.pending(c, CLIENT_HELD), 1);
        DUE.is("reply", x.pending(c, UP), 1);
        drop(x, c);
        DUE.is("PUBREL of an id that is not held", x.toClient(c), PubSubBroker.PUBREL);
        DUE.is("the other stays", x.pending(c, CLIENT_HELD), 1);
        DUE.is("reply all the same", Moves.up(x, c), "5");
        DUE.is("its entry ends", x.brokerStage(c, 1), PubSubBroker.STAGE_NONE);
        Moves.publishThroughBroker(x, other, 1, 2);
        Moves.settle(x);
        DUE.is("the id is taken anew", x.received(c, 3), 1);
        DUE.is("none held", x.pending(c, CLIENT_HELD), 0);
    }

    private static void pubcompAtBroker(int c, int other) {
        PubSubBroker x = pair(c, other);
        for (int s = 1; s <= 3; s++) {
            Moves.publishThroughBroker(x, other, 1, 2);
        }
        Moves.down(x, c);
        x.toBroker(c);
        x.toBroker(c);
        Moves.down(x, c);
        x.toBroker(c);
        DUE.is("PUBCOMP", x.toBroker(c), PubSubBroker.PUBCOMP);
        DUE.is("its entry ends", x.brokerStage(c, 1), PubSubBroker.STAGE_NONE);
        DUE.is("another stays", x.brokerStage(c, 2), PubSubBroker.STAGE_REL);
        DUE.is("entries", x.pending(c, BROKER_OUT), 2);
        DUE.is("no reply beside the third's PUBREL", Moves.down(x, c), "4");
    }

    private static void pubcompAtClient(int c) {
        PubSubBroker x = new PubSubBroker();
        x.connect(c, false);
        x.publish(c, 1, 1, 2);
        x.publish(c, 1, 1, 2);
        Moves.up(x, c);
        Moves.down(x, c);
        x.toBroker(c);
        DUE.is("PUBCOMP", x.toClient(c), PubSubBroker.PUBCOMP);
        DUE.is("one entry ends", x.pending(c, CLIENT_OUT), 1);
        DUE.is("no reply beside the second's PUBREL", Moves.up(x, c), "4");
        drop(x, c);
        DUE.is("the second is there", Moves.up(x, c), "4");
    }

    /** Ids are alike on both links, but an exchange with one client is none with another. */
    private static void sidesOfTheBroker(int c, int other) {
        PubSubBroker x = new PubSubBroker();
        x.connect(c, true);
        x.connect(other, true);
        x.subscribe(c, 1, 2);
        x.subscribe(other, 1, 2);
        x.publish(c, 2, 1, 2);
        x.publish(other, 2, 1, 2);
        x.toBroker(c);
        x.toBroker(other);
        DUE.is("both accepted under id 1", x.accepted(1) + x.accepted(2), 2);
        DUE.is("held for c", x.pending(c, BROKER_HELD), 1);
        x.toClient(c);
        x.toBroker(c);
        DUE.is("released for c", x.pending(c, BROKER_HELD), 0);
        DUE.is("held for the other", x.pending(other, BROKER_HELD), 1);
        x.publish(c, 1, 1, 2);
        x.toBroker(c);
        DUE.is("PUBCOMP, PUBLISH and PUBREC", Moves.down(x, c), "513");
        DUE.is("PUBREC of c", x.toBroker(c), PubSubBroker.PUBREC);
        DUE.is("stage for c", x.brokerStage(c, 3), PubSubBroker.STAGE_REL);
        DUE.is("stage for the other", x.brokerStage(other, 3), PubSubBroker.STAGE_PUB);
        Moves.down(x, c);
        Moves.up(x, c);
        DUE.is("ended for c", x.pending(c, BROKER_OUT), 0);
        DUE.is("not for the other", x.pending(other, BROKER_OUT), 1);
        DUE.is("received by c", x.received(c, 3), 1);
        DUE.is("not by the other", x.received(other, 3), 0);
    }

    private static void resendOfNothing(int c) {
        PubSubBroker x = new PubSubBroker();
        x.connect(c, false);
        x.subscribe(c, 1, 2);
        x.publish(c, 1, 1, 0);
        drop(x, c);
        DUE.is("status", x.status(c), 7);
        DUE.is("up", x.pending(c, UP), 0);
        DUE.is("down", x.pending(c, DOWN), 0);
        DUE.is("toBroker", x.toBroker(c), PubSubBroker.NONE);
        DUE.is("toClient", x.toClient(c), PubSubBroker.NONE);
    }

    private static void resendOfFullOutboxes(int c, int other) {
        PubSubBroker x = pair(c, other);
        for (int s = 1; s <= 16; s++) {
            Moves.publishThroughBroker(x, other, 1, 1 + s % 2);
        }
        for (int s = 17; s <= 20; s++) {
            x.publish(c, 2, 1, 1 + s % 2);
        }
        drop(x, c);
        DUE.is("up", x.pending(c, UP), 4);
        DUE.is("down", x.pending(c, DOWN), 16);
        for (int s = 17; s <= 20; s++) {
            DUE.is("PUBLISH", x.toBroker(c), PubSubBroker.PUBLISH);
            DUE.is("serial " + s, x.accepted(s), 1);
        }
        for (int s = 1; s <= 16; s++) {
            DUE.is("PUBLISH", x.toClient(c), PubSubBroker.PUBLISH);
            DUE.is("serial " + s, x.received(c, s), 1);
        }
        DUE.is("no more of them, but four replies", Moves.down(x, c), "3232");
        DUE.is("other is not resent to", x.pending(other, DOWN) + x.pending(other, UP), 0);
    }

    private static void resendAtStagePub(int c, int other) {
        PubSubBroker x = new PubSubBroker();
        x.connect(c, false);
        x.connect(other, true);
        Moves.publishThrough(x, other, 1, 1, 6);
        x.subscribe(c, 1, 1);
        x.subscribe(c, 1, 2);
        Moves.publishThroughBroker(x, other, 1, 1);
        x.publish(c, 2, 1, 2);
        x.publish(c, 2, 1, 1);
        drop(x, c);
        DUE.is("down", Moves.down(x, c), "111");
        DUE.is("up, with their qualities", Moves.up(x, c), "11232");
        DUE.is("with their marks", x.retainedReceived(c), 2);
        DUE.is("without a mark", x.received(c, 2), 1);
        DUE.is("serials", x.accepted(3) + x.accepted(4), 2);
        DUE.is("ids: replies end those of quality 1", x.pending(c, BROKER_OUT), 1);
        DUE.is("replies to c", Moves.down(x, c), "324");
        DUE.is("ids: the other one stays", x.pending(c, CLIENT_OUT), 1);
        Moves.settle(x);
        DUE.is("all end", x.pending(c, CLIENT_OUT) + x.pending(c, BROKER_OUT), 0);
    }

    private static void resendAtStageRel(int c, int other) {
        PubSubBroker x = pair(c, other);
        Moves.publishThroughBroker(x, other, 1, 2);
        Moves.down(x, c);
        Moves.up(x, c);
        x.publish(c, 2, 1, 2);
        x.toBroker(c);
        Moves.down(x, c);
        for (int times = 0; times < 3; times++) {
            drop(x, c);
            DUE.is("up", x.pending(c, UP), 1);
            DUE.is("down", x.pending(c, DOWN), 1);
            DUE.is("to the broker", x.toBroker(c), PubSubBroker.PUBREL);
            DUE.is("to the client", x.toClient(c), PubSubBroker.PUBREL);
        }
        DUE.is("accepted once", x.accepted(2), 1);
        DUE.is("received once", x.received(c, 1), 1);
        Moves.settle(x);
        DUE.is("all end", x.pending(c, CLIENT_OUT) + x.pending(c, BROKER_OUT), 0);
    }

    private static void resendKeepsOutboxes(int c, int other) {
        PubSubBroker x = pair(c, other);
        for (int s = 1; s <= 3; s++) {
            Moves.publishThroughBroker(x, other, 1, s == 3 ? 1 : 2);
        }
        x.toClient(c);
        x.toBroker(c);
        x.publish(c, 2, 1, 2);
        x.toBroker(c);
        x.publish(c, 2, 1, 1);
        for (int times = 0; times < 4; times++) {
            drop(x, c);
            DUE.is("client outbox", x.pending(c, CLIENT_OUT), 2);
            DUE.is("broker outbox", x.pending(c, BROKER_OUT), 3);
            DUE.is("stages", "" + x.brokerStage(c, 1) + x.brokerStage(c, 2) + x.brokerStage(c, 3), "211");
            DUE.is("up", x.pending(c, UP), 2);
            DUE.is("down", x.pending(c, DOWN), 3);
        }
        DUE.is("the packets at last", Moves.down(x, c), "411");
    }
}
