import java.util.ArrayList;
import java.util.Arrays;
import java.util.List;
import java.util.function.Consumer;
import java.util.function.Supplier;

/** A state in which a call can be tried, and what all courses of later calls answer when it was not made. */
final class Start {
    static final Start FRESH = new Start("a new object", PubSubBroker::new);
    static final Start BUSY = new Start("a busy broker", Start::busy);
    static final Start FULL = new Start("a full broker", Start::full);
    static final Start FULL_DOWN = new Start("a full broker with link 0 down", () -> {
        PubSubBroker x = full();
        x.disconnect(0);
        return x;
    });

    static final Start WAITING = new Start("a broker with all serials on their way", Start::waiting);

    private static final Start[] ALL = {FRESH, BUSY, FULL, FULL_DOWN, WAITING};

    private static final int[] RETAINED_TOPICS = {1, 33, 49, 801, 2, 34, 3, 3549};

    private final String name;
    private final Supplier<PubSubBroker> maker;
    private final List<List<int[]>> untouched = new ArrayList<>();

    Start(String name, Supplier<PubSubBroker> maker) {
        this.name = name;
        this.maker = maker;
    }

    static Start[] all() {
        return ALL.clone();
    }

    PubSubBroker make() {
        return maker.get();
    }

    @Override
    public String toString() {
        return name;
    }

    /** Where the later answers differ once this call was made; empty if they do not. */
    String difference(Consumer<PubSubBroker> call) {
        for (int course = 0; course < Later.COURSES.length; course++) {
            if (untouched.size() == course) {
                untouched.add(Later.answers(make(), course));
            }
            PubSubBroker x = make();
            call.accept(x);
            String difference = difference(untouched.get(course), Later.answers(x, course));
            if (!difference.isEmpty()) {
                return Later.COURSES[course] + ", " + difference;
            }
        }
        return "";
    }

    private static String difference(List<int[]> want, List<int[]> got) {
        for (int step = 0; step < Math.min(want.size(), got.size()); step++) {
            int place = Arrays.mismatch(want.get(step), got.get(step));
            if (place >= 0) {
                return "step " + step + ", place " + place + ": " + got.get(step)[place] + " for "
                        + want.get(step)[place];
            }
        }
        return want.size() == got.size() ? "" : got.size() + " steps for " + want.size();
    }

    /**
     * 0: persistent and up, every kind of packet on UP; 1: clean and up, every kind on DOWN; 2: persistent and down;
     * 3: never connected. The first three have entries in both outboxes, ids in both HELD sets, and subscriptions.
     */
    private static PubSubBroker busy() {
        PubSubBroker x = new PubSubBroker();
        x.connect(0, false);
        x.connect(1, true);
        x.connect(2, false);
        Moves.publishThrough(x, 1, 1, 5, 5);
        Moves.publishThrough(x, 1, 33, 6, 6);
        everyKindOnUp(x, 2);
        x.disconnect(2);
        everyKindOnUp(x, 0);
        everyKindOnUp(x, 1);
        Moves.up(x, 1);
        x.publish(1, 2, 1, 2);
        return x;
    }

    private static void everyKindOnUp(PubSubBroker x, int c) {
        x.subscribe(c, 241, 2);
        x.publish(c, 2, 1, 2);
        x.publish(c, 2, 1, 2);
        move(x, c, 2, 3);
        move(x, c, 3, 0);
        x.subscribe(c, 241, 2);
        move(x, c, 0, 5);
        for (int q = 0; q <= 2; q++) {
            x.publish(c, 33, 1, q);
        }
        x.subscribe(c, 225, 1);
    }

    private static void move(PubSubBroker x, int c, int up, int down) {
        for (int i = 0; i < up; i++) {
            x.toBroker(c);
        }
        for (int i = 0; i < down; i++) {
            x.toClient(c);
        }
    }

    /** All serials are given, all retained entries exist, and all that client 0 can fill is full. */
    private static PubSubBroker full() {
        PubSubBroker x = new PubSubBroker();
        x.connect(0, false);
        x.connect(1, true);
        for (int topic : RETAINED_TOPICS) {
            Moves.publishThrough(x, 1, topic, topic, 6);
        }
        for (int i = 0; i < PubSubBroker.CLIENT_OUT; i++) {
            x.publish(0, 4, 1, 2);
        }
        Moves.up(x, 0);
        Moves.down(x, 0);
        x.subscribe(0, 15, 2);
        x.subscribe(0, 15, 2);
        x.subscribe(0, 241, 2);
        x.subscribe(0, 225, 2);
        x.subscribe(0, 2, 2);
        Moves.down(x, 0);
        for (int s = 13; s <= PubSubBroker.MAX_PUBS; s++) {
            x.publish(0, 5, 1, 0);
        }
        for (int i = 0; i < PubSubBroker.WIRE; i += PubSubBroker.MAX_RETAINED) {
            x.subscribe(0, 15, 0);
        }
        return x;
    }

    /** Six retained serials of each client are on UP: what they stand for shows once they are accepted. */
    private static PubSubBroker waiting() {
        PubSubBroker x = new PubSubBroker();
        int[] topics = {34, 1, 2, 3, 4, 5, 13, 33};
        for (int c = 0; c < PubSubBroker.CLIENTS; c++) {
            x.connect(c, c % 2 == 0);
            x.subscribe(c, c == 0 ? 15 : topics[c], 2);
        }
        for (int s = 1; s <= PubSubBroker.MAX_PUBS; s++) {
            x.publish(s % 4, topics[s % 8], s, 4 + s / 4 % 3);
        }
        return x;
    }
}
