import java.util.ArrayList;
import java.util.List;

/**
 * Courses that the calls on an object may take later on, with all their answers. What no query tells, the packets on
 * the wires, the ids and what a serial stands for, shows in these answers.
 */
final class Later {
    static final String[] COURSES = {"moving every packet", "dropping and resuming every link",
        "beginning every session anew", "subscribing and publishing", "moving every packet before any query"};

    private static final int[] CODES = {1, 2, 3, 4, 5, 13, 14, 15, 33, 34, 49, 225, 241, 801, 3549};

    private final PubSubBroker x;
    private final boolean querying;
    private final List<int[]> answers = new ArrayList<>();

    private Later(PubSubBroker x, boolean querying) {
        this.x = x;
        this.querying = querying;
    }

    static List<int[]> answers(PubSubBroker x, int course) {
        // Where a query itself is tried, a course full of queries would hide what it changed.
        boolean querying = course < 4;
        Later later = new Later(x, querying);
        if (querying) {
            later.answers.add(Seen.all(x));
        }
        switch (course) {
            case 1 -> later.resumeLinks();
            case 2 -> later.beginSessions();
            case 3 -> later.subscribeAndPublish();
            default -> later.moveEverything();
        }
        later.answers.add(Seen.all(x));
        return later.answers;
    }

    private void moveEverything() {
        boolean moved = true;
        while (moved) {
            moved = false;
            for (int c = 0; c < 4; c++) {
                int up = x.toBroker(c);
                look(up);
                int down = x.toClient(c);
                look(down);
                moved |= up != 0 || down != 0;
            }
        }
    }

    private void resumeLinks() {
        for (int c = 0; c < 4; c++) {
            look(x.disconnect(c) ? 1 : 0);
        }
        for (int c = 0; c < 4; c++) {
            look(x.connect(c, false));
        }
        moveEverything();
    }

    private void beginSessions() {
        for (int c = 0; c < 4; c++) {
            look(x.disconnect(c) ? 1 : 0);
            look(x.connect(c, true));
            look(x.subscribe(c, 15, 2));
            look(x.publish(c, 1, 1, 2));
        }
        moveEverything();
    }

    private void subscribeAndPublish() {
        for (int c = 0; c < 4; c++) {
            look(x.connect(c, false));
            look(x.subscribe(c, 14, 2));
            look(x.publish(c, 1, 3, 6));
            look(x.unsubscribe(c, 14) ? 1 : 0);
            look(x.publish(c, 1, 0, 5));
            look(x.subscribe(c, 15, 1));
        }
        moveEverything();
    }

    /** Keeps an answer together with what the queries tell after it. */
    private void look(int answer) {
        if (!querying) {
            answers.add(new int[] {answer});
            return;
        }
        int[] seen = new int[1 + 4 * (9 + 2 * 24 + CODES.length) + 24 + CODES.length];
        int at = 0;
        seen[at++] = answer;
        for (int c = 0; c < 4; c++) {
            seen[at++] = x.status(c);
            seen[at++] = x.retainedReceived(c);
            for (int which = 0; which < 7; which++) {
                seen[at++] = x.pending(c, which);
            }
            for (int s = 1; s <= 24; s++) {
                seen[at++] = x.received(c, s);
                seen[at++] = x.brokerStage(c, s);
            }
            for (int filter : CODES) {
                seen[at++] = x.subscriptionQos(c, filter);
            }
        }
        for (int s = 1; s <= 24; s++) {
            seen[at++] = x.accepted(s);
        }
        for (int topic : CODES) {
            seen[at++] = x.retainedSerial(topic);
        }
        answers.add(seen);
    }
}
