/** All that the queries of a broker can tell, as one array. */
final class Seen {
    private static final int CODES = 4096;
    private static final int[] WRONG_CLIENTS = {-1, 4, 5, 100, Integer.MIN_VALUE, Integer.MAX_VALUE};

    private static final String[] NAMES = names();

    private Seen() {
    }

    static int[] all(PubSubBroker x) {
        int[] seen = new int[4 * (2 + 7 + 2 * 24 + CODES) + 24 + CODES];
        int at = 0;
        for (int c = 0; c < 4; c++) {
            seen[at++] = x.status(c);
            seen[at++] = x.retainedReceived(c);
            for (int which = 0; which < 7; which++) {
                seen[at++] = x.pending(c, which);
            }
            for (int s = 1; s <= 24; s++) {
                seen[at++] = x.received(c, s);
                seen[at++] = x.brokerStage(c, s);
            }
            for (int filter = 0; filter < CODES; filter++) {
                seen[at++] = x.subscriptionQos(c, filter);
            }
        }
        for (int s = 1; s <= 24; s++) {
            seen[at++] = x.accepted(s);
        }
        for (int topic = 0; topic < CODES; topic++) {
            seen[at++] = x.retainedSerial(topic);
        }
        return seen;
    }

    /** Which query stands at this place of all(). */
    static String name(int place) {
        return NAMES[place];
    }

    private static String[] names() {
        String[] names = new String[all(new PubSubBroker()).length];
        for (int place = 0; place < names.length; place++) {
            names[place] = nameOf(place);
        }
        return names;
    }

    private static String nameOf(int place) {
        int perClient = 2 + 7 + 2 * 24 + CODES;
        int c = place / perClient;
        if (c >= 4) {
            int rest = place - 4 * perClient;
            return rest < 24 ? "accepted(" + (rest + 1) + ")" : "retainedSerial(" + (rest - 24) + ")";
        }
        int rest = place % perClient;
        if (rest < 2) {
            return (rest == 0 ? "status(" : "retainedReceived(") + c + ")";
        }
        if (rest < 9) {
            return "pending(" + c + ", " + (rest - 2) + ")";
        }
        if (rest < 57) {
            return ((rest - 9) % 2 == 0 ? "received(" : "brokerStage(") + c + ", " + ((rest - 9) / 2 + 1) + ")";
        }
        return "subscriptionQos(" + c + ", " + (rest - 57) + ")";
    }

    static int[] wrongClients() {
        return WRONG_CLIENTS.clone();
    }
}
