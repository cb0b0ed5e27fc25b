import java.util.Set;

/** The edges of promises 7 and 8, sentence by sentence. */
public final class MovesEdgeTest {
    private static final Due DUE = new Due("MovesEdgeTest");
    private static final int NONE = PubSubBroker.NONE;
    private static final int UP = PubSubBroker.P_UP;
    private static final int DOWN = PubSubBroker.P_DOWN;

    public static void main(String[] args) {
        DUE.sentence("Promise 7: answers NONE and changes nothing if c is not in 0..3", MovesEdgeTest::upWrongClient);
        DUE.sentence("Promise 7: c's link is down", MovesEdgeTest::upLinkDown);
        DUE.sentence("Promise 7: or UP(c) is empty", MovesEdgeTest::upEmpty);
        DUE.sentence("Promise 7: Otherwise the oldest packet of UP(c) is removed", MovesEdgeTest::upOldest);
        DUE.sentence("Promise 7: the broker handles it for c (with ACCEPT for take and replies put on DOWN(c))",
                MovesEdgeTest::upHandled);
        DUE.sentence("Promise 7: the broker handles it for c (full UP and DOWN)", MovesEdgeTest::upAllFull);
        DUE.sentence("Promise 7: the answer is its kind (PUBLISH..PUBCOMP)", MovesEdgeTest::upKinds);
        DUE.sentence("Promise 8: answers NONE and changes nothing if c is not in 0..3", MovesEdgeTest::downWrongClient);
        DUE.sentence("Promise 8: c's link is down", MovesEdgeTest::downLinkDown);
        DUE.sentence("Promise 8: or DOWN(c) is empty", MovesEdgeTest::downEmpty);
        DUE.sentence("Promise 8: Otherwise the oldest packet of DOWN(c) is removed", MovesEdgeTest::downOldest);
        DUE.sentence("Promise 8: client c handles it (with DELIVER for take, its own outbox and HELD set, and replies "
                + "put on UP(c))", MovesEdgeTest::downHandled);
        DUE.sentence("Promise 8: client c handles it (full UP and DOWN)", MovesEdgeTest::downAllFull);
        DUE.sentence("Promise 8: the answer is its kind", MovesEdgeTest::downKinds);
        DUE.end();
    }

    private static void upWrongClient() {
        for (Start start : Start.all()) {
            for (int c : Seen.wrongClients()) {
                DUE.changesNothing(start, "toBroker(" + c + ")", x -> x.toBroker(c), NONE);
            }
        }
    }

    private static void downWrongClient() {
        for (Start start : Start.all()) {
            for (int c : Seen.wrongClients()) {
                DUE.changesNothing(start, "toClient(" + c + ")", x -> x.toClient(c), NONE);
            }
        }
    }

    private static void upLinkDown() {
        for (int c = 0; c < 4; c++) {
            int client = c;
            DUE.changesNothing(Start.FRESH, "toBroker(" + c + ")", x -> x.toBroker(client), NONE);
        }
        DUE.changesNothing(Start.BUSY, "toBroker(2)", x -> x.toBroker(2), NONE);
        DUE.changesNothing(Start.BUSY, "toBroker(3)", x -> x.toBroker(3), NONE);
        DUE.changesNothing(Start.FULL_DOWN, "toBroker(0)", x -> x.toBroker(0), NONE);
    }

    private static void downLinkDown() {
        for (int c = 0; c < 4; c++) {
            int client = c;
            DUE.changesNothing(Start.FRESH, "toClient(" + c + ")", x -> x.toClient(client), NONE);
        }
        DUE.changesNothing(Start.BUSY, "toClient(2)", x -> x.toClient(2), NONE);
        DUE.changesNothing(Start.BUSY, "toClient(3)", x -> x.toClient(3), NONE);
        DUE.changesNothing(Start.FULL_DOWN, "toClient(0)", x -> x.toClient(0), NONE);
    }

    /** UP(c) of the busy and the full broker is moved until it is empty, while the other wires are not. */
    private static void upEmpty() {
        for (int c = 0; c < 4; c++) {
            int client = c;
            Start linked = new Start("a new link", () -> linked(client));
            DUE.changesNothing(linked, "toBroker(" + c + ")", x -> x.toBroker(client), NONE);
        }
        Start busy = new Start("a busy broker with UP(0) emptied", () -> {
            PubSubBroker x = Start.BUSY.make();
            Moves.up(x, 0);
            return x;
        });
        Start full = new Start("a full broker with UP(0) emptied", () -> {
            PubSubBroker x = Start.FULL.make();
            Moves.up(x, 0);
            return x;
        });
        DUE.changesNothing(busy, "toBroker(0)", x -> x.toBroker(0), NONE);
        DUE.changesNothing(full, "toBroker(0)", x -> x.toBroker(0), NONE);
        DUE.changesNothing(Start.FULL, "toBroker(1)", x -> x.toBroker(1), NONE);
    }

    private static void downEmpty() {
        for (int c = 0; c < 4; c++) {
            int client = c;
            Start linked = new Start("a new link", () -> linked(client));
            DUE.changesNothing(linked, "toClient(" + c + ")", x -> x.toClient(client), NONE);
        }
        Start busy = new Start("a busy broker with DOWN(1) emptied", () -> {
            PubSubBroker x = Start.BUSY.make();
            Moves.down(x, 1);
            return x;
        });
        Start full = new Start("a full broker with DOWN(0) emptied", () -> {
            PubSubBroker x = Start.FULL.make();
            Moves.down(x, 0);
            return x;
        });
        DUE.changesNothing(busy, "toClient(1)", x -> x.toClient(1), NONE);
        DUE.changesNothing(full, "toClient(0)", x -> x.toClient(0), NONE);
        DUE.changesNothing(Start.FULL, "toClient(1)", x -> x.toClient(1), NONE);
        DUE.changesNothing(Start.WAITING, "toClient(2)", x -> x.toClient(2), NONE);
    }

    private static PubSubBroker linked(int c) {
        PubSubBroker x = new PubSubBroker();
        x.connect(c, false);
        return x;
    }

    private static void upOldest() {
        for (int c = 0; c < 4; c++) {
            PubSubBroker x = linked(c);
            for (int s = 1; s <= 24; s++) {
                x.publish(c, 1, 1, 0);
            }
            for (int s = 1; s <= 24; s++) {
                int[] before = Seen.all(x);
                DUE.is("toBroker", x.toBroker(c), PubSubBroker.PUBLISH);
                DUE.changedAlone("toBroker", x, before, Set.of("accepted(" + s + ")", "pending(" + c + ", " + UP + ")"));
                DUE.is("one less", x.pending(c, UP), 24 - s);
            }
            DUE.is("no more", x.toBroker(c), NONE);
        }
    }

    private static void downOldest() {
        for (int c = 0; c < 4; c++) {
            int publisher = (c + 1) % 4;
            PubSubBroker x = linked(c);
            x.connect(publisher, true);
            x.subscribe(c, 1, 0);
            for (int s = 1; s <= 24; s++) {
                Moves.publishThroughBroker(x, publisher, 1, 0);
            }
            for (int s = 1; s <= 24; s++) {
                int[] before = Seen.all(x);
                DUE.is("toClient", x.toClient(c), PubSubBroker.PUBLISH);
                DUE.changedAlone("toClient", x, before,
                        Set.of("received(" + c + ", " + s + ")", "pending(" + c + ", " + DOWN + ")"));
                DUE.is("one less", x.pending(c, DOWN), 24 - s);
            }
            DUE.is("no more", x.toClient(c), NONE);
        }
    }

    private static void upHandled() {
        for (int c = 0; c < 4; c++) {
            PubSubBroker x = linked(c);
            x.publish(c, 1, 1, 6);
            int[] before = Seen.all(x);
            x.toBroker(c);
            DUE.changedAlone("toBroker", x, before, Set.of("accepted(1)", "retainedSerial(1)",
                    "pending(" + c + ", 3)", "pending(" + c + ", 4)", "pending(" + c + ", 5)"));
            DUE.is("the reply", Moves.down(x, c), "3");
        }
    }

    private static void downHandled() {
        for (int c = 0; c < 4; c++) {
            PubSubBroker x = linked(c);
            Moves.publishThrough(x, c, 1, 1, 6);
            x.subscribe(c, 1, 2);
            int[] before = Seen.all(x);
            x.toClient(c);
            DUE.changedAlone("toClient", x, before, Set.of("retainedReceived(" + c + ")",
                    "pending(" + c + ", 2)", "pending(" + c + ", 4)", "pending(" + c + ", 5)"));
            DUE.is("the reply", Moves.up(x, c), "3");
        }
    }

    /** The first four on UP are PUBREL, the next sixteen PUBREC; no reply finds room on DOWN. */
    private static void upAllFull() {
        PubSubBroker x = Start.FULL.make();
        int[] before = Seen.all(x);
        DUE.is("PUBREL", x.toBroker(0), PubSubBroker.PUBREL);
        DUE.changedAlone("PUBREL", x, before, Set.of("pending(0, 3)", "pending(0, 4)"));
        DUE.is("the others", Moves.up(x, 0), "4".repeat(3) + "3".repeat(16) + "1".repeat(12));
        DUE.is("broker held", x.pending(0, PubSubBroker.P_BROKER_HELD), 0);
        DUE.is("client outbox", x.pending(0, PubSubBroker.P_CLIENT_OUT), 4);
        DUE.is("broker outbox", x.pending(0, PubSubBroker.P_BROKER_OUT), 16);
        DUE.is("down", Moves.down(x, 0), "1".repeat(32));
        x.disconnect(0);
        x.connect(0, false);
        DUE.is("the entries were released", Moves.down(x, 0), "4".repeat(16));
        DUE.is("the replies come this time", Moves.up(x, 0), "4".repeat(4) + "5".repeat(16));
    }

    private static void downAllFull() {
        PubSubBroker x = Start.FULL.make();
        int[] before = Seen.all(x);
        DUE.is("PUBLISH of quality 0", x.toClient(0), PubSubBroker.PUBLISH);
        DUE.changedAlone("PUBLISH", x, before, Set.of("retainedReceived(0)", "pending(0, 5)"));
        Moves.down(x, 0);
        Moves.up(x, 0);
        DUE.is("PUBCOMP and PUBREL", x.pending(0, DOWN), 32);
        DUE.is("up", x.pending(0, UP), 0);
        DUE.is("then", Moves.down(x, 0), "5".repeat(4) + "4".repeat(16) + "1".repeat(12));
    }

    private static void upKinds() {
        PubSubBroker x = new PubSubBroker();
        x.connect(0, true);
        x.subscribe(0, 1, 2);
        x.publish(0, 1, 1, 1);
        x.publish(0, 1, 1, 2);
        DUE.is("PUBLISH twice", Moves.up(x, 0), "11");
        Moves.down(x, 0);
        DUE.is("PUBACK, PUBREC, PUBREL", Moves.up(x, 0), "234");
        Moves.down(x, 0);
        DUE.is("PUBCOMP", Moves.up(x, 0), "5");
        DUE.is("NONE", x.toBroker(0), 0);
    }

    private static void downKinds() {
        PubSubBroker x = new PubSubBroker();
        x.connect(0, true);
        x.subscribe(0, 1, 2);
        x.publish(0, 1, 1, 1);
        x.publish(0, 1, 1, 2);
        Moves.up(x, 0);
        DUE.is("PUBLISH and PUBACK, PUBLISH and PUBREC", Moves.down(x, 0), "1213");
        Moves.up(x, 0);
        DUE.is("PUBREL, PUBCOMP", Moves.down(x, 0), "45");
        DUE.is("NONE", x.toClient(0), 0);
    }
}
