/** One broker and four clients of a publish-subscribe protocol; the caller plays the network and the applications. */
public final class PubSubBroker {
    public static final int CLIENTS = 4;
    public static final int MAX_PUBS = 24;
    public static final int CLIENT_OUT = 4;
    public static final int BROKER_OUT = 16;
    public static final int MAX_SUBS = 4;
    public static final int MAX_RETAINED = 8;
    public static final int WIRE = 32;
    public static final int NONE = 0;
    public static final int PUBLISH = 1;
    public static final int PUBACK = 2;
    public static final int PUBREC = 3;
    public static final int PUBREL = 4;
    public static final int PUBCOMP = 5;
    public static final int STAGE_NONE = 0;
    public static final int STAGE_PUB = 1;
    public static final int STAGE_REL = 2;
    public static final int ERR_CLIENT = -1;
    public static final int ERR_STATE = -2;
    public static final int ERR_ARG = -3;
    public static final int ERR_LIMIT = -4;
    public static final int ERR_FULL = -5;
    public static final int ST_CONNECTED = 1;
    public static final int ST_SESSION = 2;
    public static final int ST_PERSISTENT = 4;
    public static final int P_CLIENT_OUT = 0;
    public static final int P_BROKER_OUT = 1;
    public static final int P_CLIENT_HELD = 2;
    public static final int P_BROKER_HELD = 3;
    public static final int P_UP = 4;
    public static final int P_DOWN = 5;
    public static final int P_OVERFLOW = 6;

    private static final int MAX_CODE = 4095;
    private static final int MAX_NAME = 13;
    private static final int ONE_LEVEL = 14;
    private static final int ALL_LEVELS = 15;

    // The two ends of a link work alike, so outboxes, HELD sets and wires are kept per side:
    // side c is client c, side CLIENTS + c is the broker towards c. A side's wire is the one
    // it puts packets on: UP(c) belongs to side c, DOWN(c) to side CLIENTS + c.
    private static final int SIDES = 2 * CLIENTS;

    // Serials and packet ids start at 1; place 0 of each block stays unused, so that they serve as indices.
    private static final int SERIAL_CELLS = MAX_PUBS + 1;
    private static final int HELD_CELLS = BROKER_OUT + 1;

    private static final int ALL_RECEIVED_CELLS = CLIENTS * SERIAL_CELLS;
    private static final int ALL_SUB_CELLS = CLIENTS * MAX_SUBS;
    private static final int ALL_OUT_CELLS = SIDES * BROKER_OUT;
    private static final int ALL_HELD_CELLS = SIDES * HELD_CELLS;
    private static final int ALL_WIRE_CELLS = SIDES * WIRE;

    private int serialsGiven = 0;
    private final int[] pubTopic = new int[SERIAL_CELLS];
    private final int[] pubPayload = new int[SERIAL_CELLS];
    private final int[] pubQuality = new int[SERIAL_CELLS];
    private final boolean[] pubRetain = new boolean[SERIAL_CELLS];

    private final int[] receivedCount = new int[ALL_RECEIVED_CELLS];
    private final int[] retainedReceivedCount = new int[CLIENTS];
    private final int[] acceptedCount = new int[SERIAL_CELLS];
    private final int[] overflowCount = new int[CLIENTS];

    // Kept in increasing topic code, the order in which subscribe sends them.
    private int retainedCount = 0;
    private final int[] retainedTopic = new int[MAX_RETAINED];
    private final int[] retainedBySerial = new int[MAX_RETAINED];

    private final boolean[] linkUp = new boolean[CLIENTS];
    private final boolean[] sessionPresent = new boolean[CLIENTS];
    private final boolean[] sessionPersistent = new boolean[CLIENTS];

    private final int[] subCount = new int[CLIENTS];
    private final int[] subFilter = new int[ALL_SUB_CELLS];
    private final int[] subQos = new int[ALL_SUB_CELLS];

    private final int[] outCount = new int[SIDES];
    private final int[] outSerial = new int[ALL_OUT_CELLS];
    private final int[] outQuality = new int[ALL_OUT_CELLS];
    private final int[] outId = new int[ALL_OUT_CELLS];
    private final boolean[] outMark = new boolean[ALL_OUT_CELLS];
    private final int[] outStage = new int[ALL_OUT_CELLS];

    private final boolean[] held = new boolean[ALL_HELD_CELLS];

    private final int[] wireHead = new int[SIDES];
    private final int[] wireCount = new int[SIDES];
    private final int[] wireKind = new int[ALL_WIRE_CELLS];
    private final int[] wireId = new int[ALL_WIRE_CELLS];
    private final int[] wireSerial = new int[ALL_WIRE_CELLS];
    private final int[] wireQuality = new int[ALL_WIRE_CELLS];
    private final boolean[] wireMark = new boolean[ALL_WIRE_CELLS];

    public PubSubBroker() {
    }

    public int connect(int c, boolean clean) {
        if (!isClient(c)) {
            return ERR_CLIENT;
        }
        if (linkUp[c]) {
            return ERR_STATE;
        }
        boolean resumed = !clean && sessionPersistent[c];
        if (!resumed) {
            discardSession(c);
        }
        linkUp[c] = true;
        sessionPresent[c] = true;
        sessionPersistent[c] = !clean;
        if (!resumed) {
            return 0;
        }
        resend(c);
        resend(CLIENTS + c);
        return 1;
    }

    public boolean disconnect(int c) {
        if (!isLinked(c)) {
            return false;
        }
        linkUp[c] = false;
        wireCount[c] = 0;
        wireCount[CLIENTS + c] = 0;
        if (!sessionPersistent[c]) {
            discardSession(c);
        }
        return true;
    }

    public int subscribe(int c, int filter, int qos) {
        if (!isClient(c)) {
            return ERR_CLIENT;
        }
        if (!linkUp[c]) {
            return ERR_STATE;
        }
        if (!isFilter(filter) || qos < 0 || qos > 2) {
            return ERR_ARG;
        }
        int cell = findSubscription(c, filter);
        if (cell < 0) {
            if (subCount[c] == MAX_SUBS) {
                return ERR_FULL;
            }
            cell = c * MAX_SUBS + subCount[c];
            subFilter[cell] = filter;
            subCount[c]++;
        }
        subQos[cell] = qos;
        return sendRetained(c, filter, qos);
    }

    public boolean unsubscribe(int c, int filter) {
        if (!isLinked(c)) {
            return false;
        }
        int cell = findSubscription(c, filter);
        if (cell < 0) {
            return false;
        }
        int last = c * MAX_SUBS + subCount[c] - 1;
        for (int i = cell; i < last; i++) {
            subFilter[i] = subFilter[i + 1];
            subQos[i] = subQos[i + 1];
        }
        subCount[c]--;
        return true;
    }

    public int publish(int c, int topic, int payload, int flags) {
        if (!isClient(c)) {
            return ERR_CLIENT;
        }
        if (!linkUp[c]) {
            return ERR_STATE;
        }
        int quality = flags & 3;
        if (!isTopic(topic) || flags < 0 || flags > 6 || quality == 3) {
            return ERR_ARG;
        }
        if (serialsGiven == MAX_PUBS) {
            return ERR_LIMIT;
        }
        if (quality >= 1 && outCount[c] == CLIENT_OUT) {
            return ERR_FULL;
        }
        serialsGiven++;
        int s = serialsGiven;
        pubTopic[s] = topic;
        pubPayload[s] = payload;
        pubQuality[s] = quality;
        pubRetain[s] = (flags & 4) != 0;
        int id = 0;
        if (quality >= 1) {
            id = appendEntry(c, s, quality, false);
        }
        putPacket(c, PUBLISH, id, s, quality, false);
        return s;
    }

    public int toBroker(int c) {
        if (!isLinked(c) || wireCount[c] == 0) {
            return NONE;
        }
        int side = CLIENTS + c;
        int cell = oldestPacket(c);
        int kind = wireKind[cell];
        int id = wireId[cell];
        int quality = wireQuality[cell];
        int s = wireSerial[cell];
        removeOldestPacket(c);
        if (isTaken(side, kind, id, quality)) {
            acceptSerial(s);
        }
        answerPacket(side, kind, id, quality);
        return kind;
    }

    public int toClient(int c) {
        int incoming = CLIENTS + c;
        if (!isLinked(c) || wireCount[incoming] == 0) {
            return NONE;
        }
        int cell = oldestPacket(incoming);
        int kind = wireKind[cell];
        int id = wireId[cell];
        int quality = wireQuality[cell];
        int s = wireSerial[cell];
        boolean mark = wireMark[cell];
        removeOldestPacket(incoming);
        if (isTaken(c, kind, id, quality)) {
            deliver(c, s, mark);
        }
        answerPacket(c, kind, id, quality);
        return kind;
    }

    public int received(int c, int s) {
        if (!isClient(c) || !isSerial(s)) {
            return -1;
        }
        return receivedCount[c * SERIAL_CELLS + s];
    }

    public int retainedReceived(int c) {
        if (!isClient(c)) {
            return -1;
        }
        return retainedReceivedCount[c];
    }

    public int accepted(int s) {
        if (!isSerial(s)) {
            return -1;
        }
        return acceptedCount[s];
    }

    public int retainedSerial(int topic) {
        int place = retainedPlace(topic);
        if (place == retainedCount || retainedTopic[place] != topic) {
            return 0;
        }
        return retainedBySerial[place];
    }

    public int brokerStage(int c, int s) {
        if (!isClient(c) || !isSerial(s)) {
            return -1;
        }
        int first = (CLIENTS + c) * BROKER_OUT;
        int end = first + outCount[CLIENTS + c];
        for (int i = first; i < end; i++) {
            if (outSerial[i] == s && !outMark[i]) {
                return outStage[i];
            }
        }
        return STAGE_NONE;
    }

    public int pending(int c, int which) {
        if (!isClient(c)) {
            return -1;
        }
        switch (which) {
            case P_CLIENT_OUT:
                return outCount[c];
            case P_BROKER_OUT:
                return outCount[CLIENTS + c];
            case P_CLIENT_HELD:
                return heldSize(c);
            case P_BROKER_HELD:
                return heldSize(CLIENTS + c);
            case P_UP:
                return wireCount[c];
            case P_DOWN:
                return wireCount[CLIENTS + c];
            case P_OVERFLOW:
                return overflowCount[c];
            default:
                return -1;
        }
    }

    public int subscriptionQos(int c, int filter) {
        if (!isClient(c)) {
            return -1;
        }
        int cell = findSubscription(c, filter);
        if (cell < 0) {
            return -1;
        }
        return subQos[cell];
    }

    public int status(int c) {
        if (!isClient(c)) {
            return -1;
        }
        int sum = 0;
        if (linkUp[c]) {
            sum += ST_CONNECTED;
        }
        if (sessionPresent[c]) {
            sum += ST_SESSION;
        }
        if (sessionPersistent[c]) {
            sum += ST_PERSISTENT;
        }
        return sum;
    }

    public boolean matches(int filter, int topic) {
        return isFilter(filter) && isTopic(topic) && filterMatches(filter, topic);
    }

    private static boolean isClient(int c) {
        return c >= 0 && c < CLIENTS;
    }

    private static boolean isSerial(int s) {
        return s >= 1 && s <= MAX_PUBS;
    }

    private boolean isLinked(int c) {
        return isClient(c) && linkUp[c];
    }

    private static int level(int code, int number) {
        return (code >> (4 * (number - 1))) & 15;
    }

    private static boolean hasUnbrokenLevels(int code) {
        if (code < 0 || code > MAX_CODE || level(code, 1) == 0) {
            return false;
        }
        return level(code, 2) != 0 || level(code, 3) == 0;
    }

    private static boolean isTopic(int code) {
        return hasUnbrokenLevels(code)
                && level(code, 1) <= MAX_NAME && level(code, 2) <= MAX_NAME && level(code, 3) <= MAX_NAME;
    }

    private static boolean isFilter(int code) {
        if (!hasUnbrokenLevels(code)) {
            return false;
        }
        boolean firstFits = level(code, 1) != ALL_LEVELS || level(code, 2) == 0;
        boolean secondFits = level(code, 2) != ALL_LEVELS || level(code, 3) == 0;
        return firstFits && secondFits;
    }

    private static boolean filterMatches(int filter, int topic) {
        for (int number = 1; number <= 3; number++) {
            int wanted = level(filter, number);
            int name = level(topic, number);
            if (wanted == ALL_LEVELS) {
                return true;
            }
            if (wanted == 0) {
                return name == 0;
            }
            if (name == 0 || (wanted != ONE_LEVEL && wanted != name)) {
                return false;
            }
        }
        return true;
    }

    private static int smaller(int a, int b) {
        return a < b ? a : b;
    }

    private void discardSession(int c) {
        subCount[c] = 0;
        emptySide(c);
        emptySide(CLIENTS + c);
        sessionPresent[c] = false;
        sessionPersistent[c] = false;
    }

    private void emptySide(int side) {
        outCount[side] = 0;
        for (int id = 1; id <= BROKER_OUT; id++) {
            held[side * HELD_CELLS + id] = false;
        }
    }

    private void resend(int side) {
        int first = side * BROKER_OUT;
        int end = first + outCount[side];
        for (int i = first; i < end; i++) {
            if (outStage[i] == STAGE_PUB) {
                putPacket(side, PUBLISH, outId[i], outSerial[i], outQuality[i], outMark[i]);
            } else {
                putReply(side, PUBREL, outId[i]);
            }
        }
    }

    private int findSubscription(int c, int filter) {
        int first = c * MAX_SUBS;
        int end = first + subCount[c];
        for (int i = first; i < end; i++) {
            if (subFilter[i] == filter) {
                return i;
            }
        }
        return -1;
    }

    private int sendRetained(int c, int filter, int qos) {
        int matching = 0;
        for (int i = 0; i < retainedCount; i++) {
            if (filterMatches(filter, retainedTopic[i])) {
                int s = retainedBySerial[i];
                int quality = smaller(pubQuality[s], qos);
                sendSerial(c, s, quality, true);
                matching++;
            }
        }
        return matching;
    }

    private void acceptSerial(int s) {
        acceptedCount[s]++;
        if (pubRetain[s]) {
            updateRetained(s);
        }
        for (int d = 0; d < CLIENTS; d++) {
            int qos = greatestQos(d, pubTopic[s]);
            if (qos >= 0) {
                int quality = smaller(pubQuality[s], qos);
                sendSerial(d, s, quality, false);
            }
        }
    }

    // A client without a session has no subscriptions, so the session needs no test of its own.
    private int greatestQos(int d, int topic) {
        int greatest = -1;
        int first = d * MAX_SUBS;
        int end = first + subCount[d];
        for (int i = first; i < end; i++) {
            if (subQos[i] > greatest && filterMatches(subFilter[i], topic)) {
                greatest = subQos[i];
            }
        }
        return greatest;
    }

    private void sendSerial(int d, int s, int quality, boolean mark) {
        int side = CLIENTS + d;
        int id = 0;
        if (quality >= 1) {
            if (outCount[side] == BROKER_OUT) {
                overflowCount[d]++;
                return;
            }
            id = appendEntry(side, s, quality, mark);
        }
        if (linkUp[d]) {
            putPacket(side, PUBLISH, id, s, quality, mark);
        }
    }

    private void deliver(int d, int s, boolean mark) {
        if (mark) {
            retainedReceivedCount[d]++;
        } else {
            receivedCount[d * SERIAL_CELLS + s]++;
        }
    }

    private void updateRetained(int s) {
        int topic = pubTopic[s];
        int place = retainedPlace(topic);
        boolean present = place < retainedCount && retainedTopic[place] == topic;
        if (pubPayload[s] == 0) {
            if (present) {
                removeRetained(place);
            }
        } else if (present) {
            retainedBySerial[place] = s;
        } else if (retainedCount < MAX_RETAINED) {
            insertRetained(place, topic, s);
        }
    }

    /** Where the entry of this topic stands or, if there is none, would stand. */
    private int retainedPlace(int topic) {
        int place = 0;
        for (int i = 0; i < retainedCount; i++) {
            if (retainedTopic[i] < topic) {
                place = i + 1;
            }
        }
        return place;
    }

    private void removeRetained(int place) {
        for (int i = place; i < retainedCount - 1; i++) {
            retainedTopic[i] = retainedTopic[i + 1];
            retainedBySerial[i] = retainedBySerial[i + 1];
        }
        retainedCount--;
    }

    private void insertRetained(int place, int topic, int s) {
        for (int i = retainedCount; i > place; i--) {
            retainedTopic[i] = retainedTopic[i - 1];
            retainedBySerial[i] = retainedBySerial[i - 1];
        }
        retainedTopic[place] = topic;
        retainedBySerial[place] = s;
        retainedCount++;
    }

    /** Whether the packet that arrives at this side is a publication to be taken, not one that is held already. */
    private boolean isTaken(int side, int kind, int id, int quality) {
        if (kind != PUBLISH) {
            return false;
        }
        return quality != 2 || !held[side * HELD_CELLS + id];
    }

    /** What this side does about an arrived packet beside taking its publication. */
    private void answerPacket(int side, int kind, int id, int quality) {
        switch (kind) {
            case PUBLISH:
                answerPublish(side, id, quality);
                break;
            case PUBACK:
                endPublish(side, id);
                break;
            case PUBREC:
                releaseEntry(side, id);
                break;
            case PUBREL:
                held[side * HELD_CELLS + id] = false;
                putReply(side, PUBCOMP, id);
                break;
            case PUBCOMP:
                endRelease(side, id);
                break;
            default:
                break;
        }
    }

    private void answerPublish(int side, int id, int quality) {
        if (quality == 1) {
            putReply(side, PUBACK, id);
        } else if (quality == 2) {
            held[side * HELD_CELLS + id] = true;
            putReply(side, PUBREC, id);
        }
    }

    private void endPublish(int side, int id) {
        int entry = findEntry(side, id);
        if (entry >= 0 && outQuality[entry] == 1 && outStage[entry] == STAGE_PUB) {
            removeEntry(side, entry);
        }
    }

    private void releaseEntry(int side, int id) {
        int entry = findEntry(side, id);
        if (entry >= 0 && outQuality[entry] == 2 && outStage[entry] == STAGE_PUB) {
            outStage[entry] = STAGE_REL;
            putReply(side, PUBREL, id);
        }
    }

    private void endRelease(int side, int id) {
        int entry = findEntry(side, id);
        if (entry >= 0 && outStage[entry] == STAGE_REL) {
            removeEntry(side, entry);
        }
    }

    private int heldSize(int side) {
        int size = 0;
        for (int id = 1; id <= BROKER_OUT; id++) {
            if (held[side * HELD_CELLS + id]) {
                size++;
            }
        }
        return size;
    }

    private int findEntry(int side, int id) {
        int first = side * BROKER_OUT;
        int end = first + outCount[side];
        for (int i = first; i < end; i++) {
            if (outId[i] == id) {
                return i;
            }
        }
        return -1;
    }

    // Of the ids up to one more than the number of entries, at least one is free.
    private int smallestFreeId(int side) {
        for (int id = 1; id <= outCount[side]; id++) {
            if (findEntry(side, id) < 0) {
                return id;
            }
        }
        return outCount[side] + 1;
    }

    /** Appends to an outbox that its caller found not to be full, and answers the new entry's id. */
    private int appendEntry(int side, int s, int quality, boolean mark) {
        int id = smallestFreeId(side);
        int entry = side * BROKER_OUT + outCount[side];
        outSerial[entry] = s;
        outQuality[entry] = quality;
        outId[entry] = id;
        outMark[entry] = mark;
        outStage[entry] = STAGE_PUB;
        outCount[side]++;
        return id;
    }

    private void removeEntry(int side, int entry) {
        int last = side * BROKER_OUT + outCount[side] - 1;
        for (int i = entry; i < last; i++) {
            outSerial[i] = outSerial[i + 1];
            outQuality[i] = outQuality[i + 1];
            outId[i] = outId[i + 1];
            outMark[i] = outMark[i + 1];
            outStage[i] = outStage[i + 1];
        }
        outCount[side]--;
    }

    private int oldestPacket(int side) {
        return side * WIRE + wireHead[side];
    }

    private void removeOldestPacket(int side) {
        wireHead[side] = (wireHead[side] + 1) % WIRE;
        wireCount[side]--;
    }

    private void putReply(int side, int kind, int id) {
        putPacket(side, kind, id, 0, 0, false);
    }

    private void putPacket(int side, int kind, int id, int s, int quality, boolean mark) {
        if (wireCount[side] == WIRE) {
            return;
        }
        int cell = side * WIRE + (wireHead[side] + wireCount[side]) % WIRE;
        wireKind[cell] = kind;
        wireId[cell] = id;
        wireSerial[cell] = s;
        wireQuality[cell] = quality;
        wireMark[cell] = mark;
        wireCount[side]++;
    }
}
