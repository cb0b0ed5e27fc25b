/** The starts of the edge tests hold what their names say, and a change that no query tells is found. */
public final class StartTest {
    private static final Due DUE = new Due("StartTest");

    public static void main(String[] args) {
        busyBroker();
        fullBroker();
        waitingBroker();
        unseenChangesAreFound();
        DUE.end();
    }

    private static void busyBroker() {
        PubSubBroker x = Start.BUSY.make();
        int[] status = {7, 3, 6, 0};
        for (int c = 0; c < 4; c++) {
            DUE.is("status " + c, x.status(c), status[c]);
            DUE.is("subscription " + c, x.subscriptionQos(c, 241), c == 3 ? -1 : 2);
            for (int which = 0; which < 4; which++) {
                DUE.is("pending(" + c + ", " + which + ") is there", x.pending(c, which) > 0, c != 3);
            }
        }
        DUE.yes("every kind on UP(0)", hasEveryKind(Moves.up(x, 0)));
        DUE.yes("every kind on DOWN(1)", hasEveryKind(Moves.down(x, 1)));
        DUE.yes("room for more serials", x.publish(0, 1, 1, 0) < 24);
    }

    private static boolean hasEveryKind(String kinds) {
        return kinds.chars().distinct().count() == 5;
    }

    private static void fullBroker() {
        PubSubBroker x = Start.FULL.make();
        int[] pending = {4, 16, 16, 4, 32, 32, 7};
        for (int which = 0; which < 7; which++) {
            DUE.is("pending " + which, x.pending(0, which), pending[which]);
        }
        DUE.is("serials", x.publish(1, 1, 1, 0), PubSubBroker.ERR_LIMIT);
        DUE.is("subscriptions", x.subscribe(0, 1, 0), PubSubBroker.ERR_FULL);
        DUE.is("retained entries", x.subscribe(1, 15, 0), 8);
    }

    private static void waitingBroker() {
        PubSubBroker x = Start.WAITING.make();
        for (int c = 0; c < 4; c++) {
            DUE.is("up " + c, x.pending(c, PubSubBroker.P_UP), 6);
            DUE.is("entries of " + c, x.pending(c, PubSubBroker.P_CLIENT_OUT), 4);
        }
        DUE.is("serials", x.publish(0, 1, 1, 0), PubSubBroker.ERR_LIMIT);
        DUE.is("retained entries", x.subscribe(1, 15, 0), 0);
    }

    /** Each of these runs ends as it began for every query, but for the packets and ids that no query tells. */
    private static void unseenChangesAreFound() {
        Start start = new Start("one entry on its way", () -> {
            PubSubBroker x = new PubSubBroker();
            x.connect(0, true);
            x.publish(0, 1, 1, 0);
            return x;
        });
        DUE.is("no call", start.difference(x -> { }), "");
        DUE.no("another serial", start.difference(x -> x.publish(0, 1, 1, 0)).isEmpty());
        DUE.no("a moved packet", start.difference(x -> x.toBroker(0)).isEmpty());

        Start idle = new Start("a link", () -> {
            PubSubBroker x = new PubSubBroker();
            x.connect(0, true);
            return x;
        });
        DUE.no("a serial that went with its wire", idle.difference(x -> {
            x.publish(0, 1, 1, 1);
            x.disconnect(0);
            x.connect(0, true);
        }).isEmpty());
    }
}
