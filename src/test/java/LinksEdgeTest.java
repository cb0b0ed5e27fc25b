import java.util.Set;
import java.util.TreeSet;

/** The edges of promises 1 to 3, sentence by sentence. */
public final class LinksEdgeTest {
    private static final Due DUE = new Due("LinksEdgeTest");
    private static final int UP = PubSubBroker.P_UP;
    private static final int DOWN = PubSubBroker.P_DOWN;

    public static void main(String[] args) {
        DUE.sentence("Promise 1: all links down, no sessions", LinksEdgeTest::freshLinks);
        DUE.sentence("Promise 1: no serials given [..] The next serial to be given is 1.", LinksEdgeTest::freshSerials);
        DUE.sentence("Promise 1: no retained entries", LinksEdgeTest::freshRetained);
        DUE.sentence("Promise 1: every count 0 (received, retainedReceived, accepted, overflow)",
                LinksEdgeTest::freshCounts);
        DUE.sentence("Promise 1: all outboxes, HELD sets, subscription lists and wires empty",
                LinksEdgeTest::freshLists);
        DUE.sentence("Promise 2: c not in 0..3 answers ERR_CLIENT", LinksEdgeTest::connectWrongClient);
        DUE.sentence("Promise 2: c's link already up answers ERR_STATE", LinksEdgeTest::connectTwice);
        DUE.sentence("Promise 2: resumed = (!clean and c has a persistent session)", LinksEdgeTest::resumed);
        DUE.sentence("Promise 2: this includes a present persistent session when clean is true",
                LinksEdgeTest::cleanDiscardsPersistent);
        DUE.sentence("Promise 2: discarding an absent session changes nothing", LinksEdgeTest::absentSession);
        DUE.sentence("Promise 2: Then the link goes up and the session is present, persistent iff !clean.",
                LinksEdgeTest::statusAfterConnect);
        DUE.sentence("Promise 2: If resumed: RESEND of client c onto UP(c), then RESEND of the broker side of c "
                + "onto DOWN(c).", LinksEdgeTest::resendOnlyIfResumed);
        DUE.sentence("Promise 2: received, retainedReceived, overflow, accepted, retained entries and every other "
                + "client stay unchanged.", LinksEdgeTest::connectLeavesTheRest);
        DUE.sentence("Promise 3: answers false and changes nothing if c is not in 0..3",
                LinksEdgeTest::disconnectWrongClient);
        DUE.sentence("Promise 3: or c's link is down", LinksEdgeTest::disconnectTwice);
        DUE.sentence("Promise 3: UP(c) and DOWN(c) are emptied (their packets are lost)", LinksEdgeTest::lostPackets);
        DUE.sentence("Promise 3: a clean session is discarded", LinksEdgeTest::cleanSessionEnds);
        DUE.sentence("Promise 3: a persistent one stays with its subscriptions, outboxes and HELD sets",
                LinksEdgeTest::persistentSessionStays);
        DUE.sentence("Promise 3: Counts, retained entries and other clients are unchanged.",
                LinksEdgeTest::disconnectLeavesTheRest);
        DUE.end();
    }

    /** A new object, while others are in use: what these hold must not show in it. */
    private static PubSubBroker fresh() {
        Start.BUSY.make();
        Start.FULL.make();
        return new PubSubBroker();
    }

    private static void freshLinks() {
        for (int c = 0; c < 4; c++) {
            PubSubBroker x = fresh();
            DUE.is("status " + c, x.status(c), 0);
            DUE.no("disconnect " + c, x.disconnect(c));
            DUE.is("subscribe " + c, x.subscribe(c, 1, 1), PubSubBroker.ERR_STATE);
            DUE.is("publish " + c, x.publish(c, 1, 1, 1), PubSubBroker.ERR_STATE);
            DUE.is("no session to resume " + c, x.connect(c, false), 0);
        }
    }

    private static void freshSerials() {
        for (int c = 0; c < 4; c++) {
            PubSubBroker x = fresh();
            x.connect(c, true);
            for (int s = 1; s <= 24; s++) {
                DUE.is("publish", x.publish(c, 1, 1, 0), s);
            }
        }
    }

    private static void freshRetained() {
        PubSubBroker x = fresh();
        for (int topic = -1; topic <= 4096; topic++) {
            DUE.is("retainedSerial " + topic, x.retainedSerial(topic), 0);
        }
        x.connect(0, true);
        DUE.is("entries", x.subscribe(0, 15, 2), 0);
    }

    private static void freshCounts() {
        PubSubBroker x = fresh();
        for (int c = 0; c < 4; c++) {
            DUE.is("retainedReceived " + c, x.retainedReceived(c), 0);
            DUE.is("overflow " + c, x.pending(c, PubSubBroker.P_OVERFLOW), 0);
            for (int s = 1; s <= 24; s++) {
                DUE.is("received " + c + ", " + s, x.received(c, s), 0);
            }
        }
        for (int s = 1; s <= 24; s++) {
            DUE.is("accepted " + s, x.accepted(s), 0);
        }
    }

    private static void freshLists() {
        for (int c = 0; c < 4; c++) {
            PubSubBroker x = fresh();
            x.connect(c, false);
            for (int which = 0; which <= 5; which++) {
                DUE.is("pending " + which, x.pending(c, which), 0);
            }
            for (int s = 1; s <= 24; s++) {
                DUE.is("stage " + s, x.brokerStage(c, s), PubSubBroker.STAGE_NONE);
            }
            for (int filter = 0; filter <= 4095; filter++) {
                DUE.is("subscriptionQos " + filter, x.subscriptionQos(c, filter), -1);
            }
            DUE.is("toBroker", x.toBroker(c), PubSubBroker.NONE);
            DUE.is("toClient", x.toClient(c), PubSubBroker.NONE);
        }
    }

    private static void connectWrongClient() {
        for (Start start : Start.all()) {
            for (int c : Seen.wrongClients()) {
                DUE.changesNothing(start, "connect(" + c + ", true)", x -> x.connect(c, true), PubSubBroker.ERR_CLIENT);
                DUE.changesNothing(start, "connect(" + c + ", false)", x -> x.connect(c, false),
                        PubSubBroker.ERR_CLIENT);
            }
        }
    }

    private static void connectTwice() {
        refusedConnect(Start.BUSY, 0);
        refusedConnect(Start.BUSY, 1);
        refusedConnect(Start.FULL, 0);
        refusedConnect(Start.FULL, 1);
        for (int c = 0; c < 4; c++) {
            int client = c;
            refusedConnect(Start.WAITING, c);
            refusedConnect(new Start("a new persistent session", () -> connected(client, false)), c);
            refusedConnect(new Start("a new clean session", () -> connected(client, true)), c);
        }
    }

    private static PubSubBroker connected(int c, boolean clean) {
        PubSubBroker x = new PubSubBroker();
        x.connect(c, clean);
        return x;
    }

    private static void refusedConnect(Start start, int c) {
        DUE.changesNothing(start, "connect(" + c + ", true)", x -> x.connect(c, true), PubSubBroker.ERR_STATE);
        DUE.changesNothing(start, "connect(" + c + ", false)", x -> x.connect(c, false), PubSubBroker.ERR_STATE);
    }

    private static void resumed() {
        for (int c = 0; c < 4; c++) {
            for (int before = 0; before < 3; before++) {
                DUE.is("clean connect", downWith(c, before).connect(c, true), 0);
                DUE.is("connect, session before " + before, downWith(c, before).connect(c, false), before == 2 ? 1 : 0);
            }
        }
    }

    /** Client c is down and had no session (0), a clean one (1) or a persistent one (2). */
    private static PubSubBroker downWith(int c, int before) {
        PubSubBroker x = new PubSubBroker();
        if (before > 0) {
            x.connect(c, before == 1);
            x.disconnect(c);
        }
        return x;
    }

    private static void cleanDiscardsPersistent() {
        discardedByConnect(Start.BUSY, 2);
        discardedByConnect(Start.FULL_DOWN, 0);
    }

    private static void discardedByConnect(Start start, int c) {
        PubSubBroker x = start.make();
        DUE.is("connect", x.connect(c, true), 0);
        nothingIsLeft(x, c);
        x.disconnect(c);
        DUE.is("no persistent session is left", x.connect(c, false), 0);
    }

    private static void nothingIsLeft(PubSubBroker x, int c) {
        for (int which = 0; which <= 5; which++) {
            DUE.is("pending " + which, x.pending(c, which), 0);
        }
        for (int filter = 0; filter <= 4095; filter++) {
            DUE.is("subscriptionQos " + filter, x.subscriptionQos(c, filter), -1);
        }
        for (int s = 1; s <= 24; s++) {
            DUE.is("brokerStage " + s, x.brokerStage(c, s), PubSubBroker.STAGE_NONE);
        }
    }

    private static void absentSession() {
        PubSubBroker x = Start.FULL_DOWN.make();
        x.connect(0, true);
        x.disconnect(0);
        for (int i = 0; i < 2; i++) {
            int[] before = Seen.all(x);
            DUE.is("connect", x.connect(0, i == 0), 0);
            DUE.changedAlone("connect", x, before, Set.of("status(0)"));
            x.disconnect(0);
        }
    }

    private static void statusAfterConnect() {
        for (int c = 0; c < 4; c++) {
            for (int before = 0; before < 3; before++) {
                PubSubBroker x = downWith(c, before);
                x.connect(c, true);
                DUE.is("status clean", x.status(c), 3);
                PubSubBroker y = downWith(c, before);
                y.connect(c, false);
                DUE.is("status persistent", y.status(c), 7);
            }
        }
    }

    private static void resendOnlyIfResumed() {
        PubSubBroker x = Start.FULL_DOWN.make();
        DUE.is("resumed", x.connect(0, false), 1);
        DUE.is("up", x.pending(0, UP), 4);
        DUE.is("down", x.pending(0, DOWN), 16);
        DUE.is("the broker's side was at STAGE_PUB", Moves.down(x, 0), "1".repeat(16));
        DUE.is("the client's side at STAGE_REL", Moves.up(x, 0), "4".repeat(4) + "3".repeat(16));
        PubSubBroker y = Start.FULL_DOWN.make();
        DUE.is("not resumed", y.connect(0, true), 0);
        DUE.is("up", y.pending(0, UP), 0);
        DUE.is("down", y.pending(0, DOWN), 0);
    }

    private static void connectLeavesTheRest() {
        PubSubBroker x = Start.FULL_DOWN.make();
        int[] before = Seen.all(x);
        x.connect(0, false);
        DUE.changedAlone("a resume", x, before, Set.of("status(0)", "pending(0, 4)", "pending(0, 5)"));
        PubSubBroker y = Start.FULL_DOWN.make();
        y.connect(0, true);
        DUE.changedAlone("a clean connect", y, before, Set.of("status(0)", "pending(0, 0)", "pending(0, 1)",
                "pending(0, 2)", "pending(0, 3)", "subscriptionQos(0, 15)", "subscriptionQos(0, 241)",
                "subscriptionQos(0, 225)", "subscriptionQos(0, 2)"));
    }

    private static void disconnectWrongClient() {
        for (Start start : Start.all()) {
            for (int c : Seen.wrongClients()) {
                DUE.changesNothing(start, "disconnect(" + c + ")", x -> x.disconnect(c), false);
            }
        }
    }

    private static void disconnectTwice() {
        for (int c = 0; c < 4; c++) {
            int client = c;
            DUE.changesNothing(Start.FRESH, "disconnect(" + c + ")", x -> x.disconnect(client), false);
            Start persistent = new Start("a dropped persistent session", () -> downWith(client, 2));
            DUE.changesNothing(persistent, "disconnect(" + c + ")", x -> x.disconnect(client), false);
            Start clean = new Start("a dropped clean session", () -> downWith(client, 1));
            DUE.changesNothing(clean, "disconnect(" + c + ")", x -> x.disconnect(client), false);
        }
        DUE.changesNothing(Start.BUSY, "disconnect(2)", x -> x.disconnect(2), false);
        DUE.changesNothing(Start.BUSY, "disconnect(3)", x -> x.disconnect(3), false);
        DUE.changesNothing(Start.FULL_DOWN, "disconnect(0)", x -> x.disconnect(0), false);
    }

    private static void lostPackets() {
        for (int c = 0; c < 4; c++) {
            PubSubBroker x = new PubSubBroker();
            x.connect(c, false);
            x.subscribe(c, 1, 0);
            x.publish(c, 1, 1, 0);
            x.toBroker(c);
            x.publish(c, 1, 1, 0);
            DUE.is("up and down", x.pending(c, UP) + x.pending(c, DOWN), 2);
            DUE.yes("disconnect", x.disconnect(c));
            DUE.is("up", x.pending(c, UP), 0);
            DUE.is("down", x.pending(c, DOWN), 0);
            x.connect(c, false);
            DUE.is("no packet comes back", Moves.up(x, c) + Moves.down(x, c), "");
            DUE.is("not accepted", x.accepted(2), 0);
            DUE.is("not received", x.received(c, 1), 0);
        }
        PubSubBroker y = Start.FULL.make();
        DUE.yes("disconnect with full wires", y.disconnect(0));
        DUE.is("up", y.pending(0, UP), 0);
        DUE.is("down", y.pending(0, DOWN), 0);
    }

    private static void cleanSessionEnds() {
        PubSubBroker x = Start.BUSY.make();
        DUE.yes("disconnect", x.disconnect(1));
        DUE.is("status", x.status(1), 0);
        nothingIsLeft(x, 1);
        DUE.is("nothing to resume", x.connect(1, false), 0);
        DUE.is("up and down", x.pending(1, UP) + x.pending(1, DOWN), 0);
    }

    private static void persistentSessionStays() {
        PubSubBroker x = Start.FULL.make();
        int[] before = Seen.all(x);
        DUE.yes("disconnect", x.disconnect(0));
        DUE.changedAlone("disconnect", x, before, Set.of("status(0)", "pending(0, 4)", "pending(0, 5)"));
        DUE.is("status", x.status(0), 6);
    }

    private static void disconnectLeavesTheRest() {
        PubSubBroker x = Start.BUSY.make();
        int[] before = Seen.all(x);
        Set<String> changed = new TreeSet<>();
        changed.add("status(1)");
        changed.add("subscriptionQos(1, 241)");
        changed.add("subscriptionQos(1, 225)");
        for (int which = 0; which <= 5; which++) {
            changed.add("pending(1, " + which + ")");
        }
        for (int s = 1; s <= 24; s++) {
            if (x.brokerStage(1, s) != PubSubBroker.STAGE_NONE) {
                changed.add("brokerStage(1, " + s + ")");
            }
        }
        DUE.yes("disconnect", x.disconnect(1));
        DUE.changedAlone("disconnect of a clean session", x, before, changed);
    }
}
