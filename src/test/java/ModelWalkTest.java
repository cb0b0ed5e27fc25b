import java.util.ArrayList;
import java.util.Arrays;
import java.util.List;
import java.util.Random;

/** All promises: long walks of calls on the program and on the model, the same ones in every run of the test. */
public final class ModelWalkTest {
    private static final int WALKS = 3000;
    private static final int CALLS = 400;
    private static final int CALLS_PER_PHASE = 50;
    private static final int[] TOPICS = {1, 2, 33, 49, 801, 545, 34, 3549, 3, 4, 13, 50};
    private static final int[] WRONG_TOPICS = {0, 14, 15, 16, 257, 4096, -1, 4097};
    private static final int[] FILTERS = {1, 33, 14, 15, 225, 241, 238, 3809, 4065, 46, 801, 3822};
    private static final int[] WRONG_FILTERS = {0, 16, 31, 255, 257, 4096, -1, 4097};
    private static final int[] PAYLOADS = {1, 7, -1, 0, 0, Integer.MIN_VALUE, Integer.MAX_VALUE};

    private final Due due;
    private final Random random;
    private final PubSubBroker x = new PubSubBroker();
    private final Model model = new Model();
    private final List<String> calls = new ArrayList<>();
    private final int[] weights = new int[7];
    private final int topics;
    private final int clients;
    private final boolean stalled;
    private final boolean greatestQosAlone;

    private ModelWalkTest(Due due, long seed) {
        this.due = due;
        this.random = new Random(seed);
        topics = 1 + random.nextInt(TOPICS.length);
        stalled = seed % 3 == 0;
        greatestQosAlone = seed % 2 == 0;
        clients = stalled ? 1 : 1 + random.nextInt(4);
    }

    public static void main(String[] args) {
        Due due = new Due("ModelWalkTest");
        int[] greatest = new int[7];
        for (int walk = 0; walk < WALKS && due.wrong() == 0; walk++) {
            new ModelWalkTest(due, walk).walk(greatest);
        }
        // Walks that never fill an outbox, a HELD set or a wire would show little.
        due.is("the greatest pending of each kind, overflow apart",
                Arrays.toString(Arrays.copyOf(greatest, 6)), "[4, 16, 16, 4, 32, 32]");
        due.yes("overflow was met", greatest[6] > 0);
        due.end();
    }

    private void walk(int[] greatest) {
        if (stalled) {
            retainOne();
        }
        for (int i = 0; i < CALLS && due.wrong() == 0; i++) {
            if (i % CALLS_PER_PHASE == 0) {
                beginPhase(stalled && i < CALLS / 2);
            }
            step();
            compareQueries();
            for (int c = 0; c < 4; c++) {
                for (int which = 0; which < 7; which++) {
                    greatest[which] = Math.max(greatest[which], x.pending(c, which));
                }
            }
        }
        if (due.wrong() != 0) {
            System.out.println("the walk: " + String.join("; ", calls));
        }
    }

    /** Phases in which some moves are rare or missing let outboxes, HELD sets and wires fill up. */
    private void beginPhase(boolean brokerStalls) {
        int[] choice = {0, 1, 6, 20};
        for (int i = 0; i < weights.length; i++) {
            weights[i] = choice[random.nextInt(choice.length)];
        }
        weights[0] = 1 + random.nextInt(6);
        weights[1] = random.nextInt(3);
        if (brokerStalls) {
            weights[1] = 0;
            weights[5] = 0;
        }
    }

    /** With a retained entry subscribe alone can fill the broker's outbox, while the broker handles nothing. */
    private void retainOne() {
        int flags = 5 + random.nextInt(2);
        compare("connect(0, false)", x.connect(0, false), model.connect(0, false));
        compare("publish(0, 33, 1, " + flags + ")", x.publish(0, 33, 1, flags), model.publish(0, 33, 1, flags));
        compare("toBroker(0)", x.toBroker(0), model.toBroker(0));
    }

    private int pickClient() {
        return random.nextInt(40) == 0 ? random.nextInt(8) - 2 : random.nextInt(clients);
    }

    private int pick(int[] usual, int[] odd) {
        return random.nextInt(30) == 0 ? odd[random.nextInt(odd.length)] : usual[random.nextInt(usual.length)];
    }

    private int pickTopic() {
        return pick(Arrays.copyOf(TOPICS, topics), WRONG_TOPICS);
    }

    private int pickMove() {
        int rest = random.nextInt(Arrays.stream(weights).sum());
        int move = 0;
        while (rest >= weights[move]) {
            rest -= weights[move];
            move++;
        }
        return move;
    }

    private void step() {
        int c = pickClient();
        int filter = pick(FILTERS, WRONG_FILTERS);
        switch (pickMove()) {
            case 0 -> {
                boolean clean = random.nextInt(4) == 0;
                compare("connect(" + c + ", " + clean + ")", x.connect(c, clean), model.connect(c, clean));
            }
            case 1 -> compare("disconnect(" + c + ")", x.disconnect(c), model.disconnect(c));
            case 2 -> {
                int usual = greatestQosAlone ? 2 : random.nextInt(3);
                int qos = random.nextInt(20) == 0 ? random.nextInt(8) - 3 : usual;
                compare("subscribe(" + c + ", " + filter + ", " + qos + ")",
                        x.subscribe(c, filter, qos), model.subscribe(c, filter, qos));
            }
            case 3 -> {
                if (random.nextInt(4) == 0) {
                    compare("unsubscribe(" + c + ", " + filter + ")",
                            x.unsubscribe(c, filter), model.unsubscribe(c, filter));
                }
            }
            case 4 -> {
                int topic = pickTopic();
                int payload = PAYLOADS[random.nextInt(PAYLOADS.length)];
                int flags = random.nextInt(20) == 0 ? random.nextInt(16) - 4 : random.nextInt(7);
                compare("publish(" + c + ", " + topic + ", " + payload + ", " + flags + ")",
                        x.publish(c, topic, payload, flags), model.publish(c, topic, payload, flags));
            }
            case 5 -> compare("toBroker(" + c + ")", x.toBroker(c), model.toBroker(c));
            default -> compare("toClient(" + c + ")", x.toClient(c), model.toClient(c));
        }
    }

    private void compare(String call, Object got, Object want) {
        calls.add(call);
        due.is(call, got, want);
    }

    private void compareQueries() {
        for (int c = -1; c <= 4; c++) {
            compareQuery("status", c, 0, x.status(c), model.status(c));
            compareQuery("retainedReceived", c, 0, x.retainedReceived(c), model.retainedReceived(c));
            for (int which = -1; which <= 7; which++) {
                compareQuery("pending", c, which, x.pending(c, which), model.pending(c, which));
            }
            for (int s = 0; s <= 25; s++) {
                compareQuery("received", c, s, x.received(c, s), model.received(c, s));
                compareQuery("brokerStage", c, s, x.brokerStage(c, s), model.brokerStage(c, s));
            }
            for (int filter : FILTERS) {
                compareQuery("subscriptionQos", c, filter, x.subscriptionQos(c, filter),
                        model.subscriptionQos(c, filter));
            }
        }
        for (int s = 0; s <= 25; s++) {
            compareQuery("accepted", s, 0, x.accepted(s), model.accepted(s));
        }
        for (int topic : TOPICS) {
            compareQuery("retainedSerial", topic, 0, x.retainedSerial(topic), model.retainedSerial(topic));
        }
    }

    /** Names are put together only for what is wrong: there are many millions of these. */
    private void compareQuery(String name, int a, int b, int got, int want) {
        if (got != want) {
            due.is(name + "(" + a + ", " + b + ")", got, want);
        }
    }
}
