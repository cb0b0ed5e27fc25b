import java.util.ArrayDeque;
import java.util.ArrayList;
import java.util.Arrays;
import java.util.Deque;
import java.util.HashMap;
import java.util.LinkedHashMap;
import java.util.List;
import java.util.Map;
import java.util.Set;
import java.util.TreeMap;
import java.util.TreeSet;
import java.util.regex.Pattern;

/** The document told a second time, with the Java library's collections, to be compared with the program. */
final class Model {
    private record Publication(int topic, int payload, int quality, boolean retain) {
    }

    private record Packet(int kind, int id, int serial, int quality, boolean mark) {
    }

    private static final class Entry {
        private final int serial;
        private final int quality;
        private final int id;
        private final boolean mark;
        private int stage = 1;

        private Entry(int serial, int quality, int id, boolean mark) {
            this.serial = serial;
            this.quality = quality;
            this.id = id;
            this.mark = mark;
        }
    }

    /** A client's or the broker's side of one link, with the wire that leads away from it. */
    private static final class Side {
        private final List<Entry> outbox = new ArrayList<>();
        private final Set<Integer> held = new TreeSet<>();
        private final Deque<Packet> out = new ArrayDeque<>();

        private void put(Packet packet) {
            if (out.size() < 32) {
                out.addLast(packet);
            }
        }

        private int append(int serial, int quality, boolean mark) {
            Set<Integer> used = new TreeSet<>();
            outbox.forEach(e -> used.add(e.id));
            int id = 1;
            while (used.contains(id)) {
                id++;
            }
            outbox.add(new Entry(serial, quality, id, mark));
            return id;
        }

        private void resend() {
            for (Entry e : outbox) {
                put(e.stage == 1 ? new Packet(1, e.id, e.serial, e.quality, e.mark) : new Packet(4, e.id, 0, 0, false));
            }
        }

        private void discard() {
            outbox.clear();
            held.clear();
        }
    }

    private static final class Client {
        private boolean up = false;
        private boolean session = false;
        private boolean persistent = false;
        private final Map<Integer, Integer> subscriptions = new LinkedHashMap<>();
        private final Side own = new Side();
        private final Side broker = new Side();
        private int overflow = 0;
        private int retainedReceived = 0;
        private final int[] received = new int[25];

        private void discard() {
            subscriptions.clear();
            own.discard();
            broker.discard();
            session = false;
            persistent = false;
        }
    }

    private static final Map<Integer, Pattern> PATTERNS = new HashMap<>();
    private static final Map<Integer, String> PATHS = new HashMap<>();

    private final Client[] clients = {new Client(), new Client(), new Client(), new Client()};
    private final List<Publication> publications = new ArrayList<>();
    private final int[] accepted = new int[25];
    private final TreeMap<Integer, Integer> retained = new TreeMap<>();

    private static boolean wrong(int c) {
        return c < 0 || c > 3;
    }

    private boolean unlinked(int c) {
        return wrong(c) || !clients[c].up;
    }

    private Publication publication(int s) {
        return publications.get(s - 1);
    }

    int connect(int c, boolean clean) {
        if (wrong(c)) {
            return -1;
        }
        Client client = clients[c];
        if (client.up) {
            return -2;
        }
        boolean resumed = !clean && client.session && client.persistent;
        if (!resumed) {
            client.discard();
        }
        client.up = true;
        client.session = true;
        client.persistent = !clean;
        if (resumed) {
            client.own.resend();
            client.broker.resend();
        }
        return resumed ? 1 : 0;
    }

    boolean disconnect(int c) {
        if (unlinked(c)) {
            return false;
        }
        Client client = clients[c];
        client.up = false;
        client.own.out.clear();
        client.broker.out.clear();
        if (!client.persistent) {
            client.discard();
        }
        return true;
    }

    int subscribe(int c, int filter, int qos) {
        if (unlinked(c)) {
            return wrong(c) ? -1 : -2;
        }
        if (!Codes.isFilter(filter) || qos < 0 || qos > 2) {
            return -3;
        }
        Map<Integer, Integer> subscriptions = clients[c].subscriptions;
        if (!subscriptions.containsKey(filter) && subscriptions.size() == 4) {
            return -5;
        }
        subscriptions.put(filter, qos);
        int count = 0;
        for (Map.Entry<Integer, Integer> entry : retained.entrySet()) {
            if (matches(filter, entry.getKey())) {
                int s = entry.getValue();
                send(c, s, Math.min(publication(s).quality, qos), true);
                count++;
            }
        }
        return count;
    }

    boolean unsubscribe(int c, int filter) {
        return !unlinked(c) && clients[c].subscriptions.remove(filter) != null;
    }

    int publish(int c, int topic, int payload, int flags) {
        if (unlinked(c)) {
            return wrong(c) ? -1 : -2;
        }
        if (!Codes.isTopic(topic) || !Arrays.asList(0, 1, 2, 4, 5, 6).contains(flags)) {
            return -3;
        }
        if (publications.size() == 24) {
            return -4;
        }
        int quality = flags % 4;
        Side own = clients[c].own;
        if (quality >= 1 && own.outbox.size() == 4) {
            return -5;
        }
        publications.add(new Publication(topic, payload, quality, flags >= 4));
        int s = publications.size();
        int id = quality == 0 ? 0 : own.append(s, quality, false);
        own.put(new Packet(1, id, s, quality, false));
        return s;
    }

    int toBroker(int c) {
        if (unlinked(c) || clients[c].own.out.isEmpty()) {
            return 0;
        }
        Packet packet = clients[c].own.out.removeFirst();
        handle(clients[c].broker, packet, () -> accept(packet.serial));
        return packet.kind;
    }

    int toClient(int c) {
        if (unlinked(c) || clients[c].broker.out.isEmpty()) {
            return 0;
        }
        Packet packet = clients[c].broker.out.removeFirst();
        handle(clients[c].own, packet, () -> deliver(clients[c], packet));
        return packet.kind;
    }

    private static void handle(Side side, Packet packet, Runnable take) {
        int id = packet.id;
        if (packet.kind == 1 && packet.quality == 0) {
            take.run();
        } else if (packet.kind == 1 && packet.quality == 1) {
            take.run();
            side.put(new Packet(2, id, 0, 0, false));
        } else if (packet.kind == 1) {
            if (side.held.add(id)) {
                take.run();
            }
            side.put(new Packet(3, id, 0, 0, false));
        } else if (packet.kind == 2) {
            side.outbox.removeIf(e -> e.id == id && e.quality == 1 && e.stage == 1);
        } else if (packet.kind == 3) {
            for (Entry e : side.outbox) {
                if (e.id == id && e.quality == 2 && e.stage == 1) {
                    e.stage = 2;
                    side.put(new Packet(4, id, 0, 0, false));
                }
            }
        } else if (packet.kind == 4) {
            side.held.remove(id);
            side.put(new Packet(5, id, 0, 0, false));
        } else {
            side.outbox.removeIf(e -> e.id == id && e.stage == 2);
        }
    }

    private void accept(int s) {
        Publication p = publication(s);
        accepted[s]++;
        if (p.retain && p.payload == 0) {
            retained.remove(p.topic);
        } else if (p.retain && (retained.containsKey(p.topic) || retained.size() < 8)) {
            retained.put(p.topic, s);
        }
        for (int d = 0; d < 4; d++) {
            int greatest = -1;
            for (Map.Entry<Integer, Integer> subscription : clients[d].subscriptions.entrySet()) {
                if (clients[d].session && matches(subscription.getKey(), p.topic)) {
                    greatest = Math.max(greatest, subscription.getValue());
                }
            }
            if (greatest >= 0) {
                send(d, s, Math.min(p.quality, greatest), false);
            }
        }
    }

    private void send(int d, int s, int quality, boolean mark) {
        Client client = clients[d];
        if (quality >= 1 && client.broker.outbox.size() == 16) {
            client.overflow++;
            return;
        }
        int id = quality == 0 ? 0 : client.broker.append(s, quality, mark);
        if (client.up) {
            client.broker.put(new Packet(1, id, s, quality, mark));
        }
    }

    private static void deliver(Client client, Packet packet) {
        if (packet.mark) {
            client.retainedReceived++;
        } else {
            client.received[packet.serial]++;
        }
    }

    int received(int c, int s) {
        return wrong(c) || s < 1 || s > 24 ? -1 : clients[c].received[s];
    }

    int retainedReceived(int c) {
        return wrong(c) ? -1 : clients[c].retainedReceived;
    }

    int accepted(int s) {
        return s < 1 || s > 24 ? -1 : accepted[s];
    }

    int retainedSerial(int topic) {
        return retained.getOrDefault(topic, 0);
    }

    int brokerStage(int c, int s) {
        if (wrong(c) || s < 1 || s > 24) {
            return -1;
        }
        for (Entry e : clients[c].broker.outbox) {
            if (e.serial == s && !e.mark) {
                return e.stage;
            }
        }
        return 0;
    }

    int pending(int c, int which) {
        if (wrong(c) || which < 0 || which > 6) {
            return -1;
        }
        Client client = clients[c];
        int[] all = {client.own.outbox.size(), client.broker.outbox.size(), client.own.held.size(),
            client.broker.held.size(), client.own.out.size(), client.broker.out.size(), client.overflow};
        return all[which];
    }

    int subscriptionQos(int c, int filter) {
        return wrong(c) ? -1 : clients[c].subscriptions.getOrDefault(filter, -1);
    }

    int status(int c) {
        if (wrong(c)) {
            return -1;
        }
        Client client = clients[c];
        return (client.up ? 1 : 0) + (client.session ? 2 : 0) + (client.session && client.persistent ? 4 : 0);
    }

    boolean matches(int filter, int topic) {
        return Codes.isFilter(filter) && Codes.isTopic(topic)
                && PATTERNS.computeIfAbsent(filter, Codes::pattern)
                        .matcher(PATHS.computeIfAbsent(topic, Codes::path)).matches();
    }
}
