import java.lang.reflect.Constructor;
import java.lang.reflect.Field;
import java.lang.reflect.Method;
import java.lang.reflect.Modifier;
import java.util.Arrays;
import java.util.Map;
import java.util.Set;
import java.util.TreeMap;
import java.util.TreeSet;

/** The public face: every constant, constructor and method of the document, and none beside them. */
public final class FaceTest {
    private static final Due DUE = new Due("FaceTest");
    private static final Set<String> METHODS = Set.of(
            "int connect(int, boolean)", "boolean disconnect(int)", "int subscribe(int, int, int)",
            "boolean unsubscribe(int, int)", "int publish(int, int, int, int)", "int toBroker(int)",
            "int toClient(int)", "int received(int, int)", "int retainedReceived(int)", "int accepted(int)",
            "int retainedSerial(int)", "int brokerStage(int, int)", "int pending(int, int)",
            "int subscriptionQos(int, int)", "int status(int)", "boolean matches(int, int)");
    private static final String CONSTANTS = "CLIENTS=4 MAX_PUBS=24 CLIENT_OUT=4 BROKER_OUT=16 MAX_SUBS=4 "
            + "MAX_RETAINED=8 WIRE=32 NONE=0 PUBLISH=1 PUBACK=2 PUBREC=3 PUBREL=4 PUBCOMP=5 STAGE_NONE=0 "
            + "STAGE_PUB=1 STAGE_REL=2 ERR_CLIENT=-1 ERR_STATE=-2 ERR_ARG=-3 ERR_LIMIT=-4 ERR_FULL=-5 "
            + "ST_CONNECTED=1 ST_SESSION=2 ST_PERSISTENT=4 P_CLIENT_OUT=0 P_BROKER_OUT=1 P_CLIENT_HELD=2 "
            + "P_BROKER_HELD=3 P_UP=4 P_DOWN=5 P_OVERFLOW=6";

    public static void main(String[] args) throws IllegalAccessException {
        DUE.is("the class", Modifier.toString(PubSubBroker.class.getModifiers()), "public final");
        constants();
        constructors();
        methods();
        DUE.end();
    }

    private static void constants() throws IllegalAccessException {
        Map<String, Integer> due = new TreeMap<>();
        for (String constant : CONSTANTS.split(" ")) {
            String[] parts = constant.split("=");
            due.put(parts[0], Integer.valueOf(parts[1]));
        }
        Map<String, Integer> got = new TreeMap<>();
        for (Field field : PubSubBroker.class.getDeclaredFields()) {
            if (!Modifier.isPrivate(field.getModifiers())) {
                DUE.is(field.getName(), Modifier.toString(field.getModifiers()), "public static final");
                DUE.is(field.getName(), field.getType(), int.class);
                got.put(field.getName(), field.getInt(null));
            }
        }
        DUE.is("the constants", got, due);
    }

    private static void constructors() {
        Constructor<?>[] all = PubSubBroker.class.getDeclaredConstructors();
        DUE.is("constructors", all.length, 1);
        DUE.is("its parameters", all[0].getParameterCount(), 0);
        DUE.is("its modifiers", Modifier.toString(all[0].getModifiers()), "public");
    }

    private static void methods() {
        Set<String> got = new TreeSet<>();
        Set<String> publicNames = new TreeSet<>();
        for (Method method : PubSubBroker.class.getDeclaredMethods()) {
            if (!Modifier.isPrivate(method.getModifiers())) {
                DUE.is(method.getName(), Modifier.toString(method.getModifiers()), "public");
                String parameters = Arrays.toString(method.getParameterTypes());
                got.add(method.getReturnType() + " " + method.getName() + parameters.replace('[', '(').replace(']', ')'));
                publicNames.add(method.getName());
            }
        }
        DUE.is("the methods", got, new TreeSet<>(METHODS));
        for (Method method : PubSubBroker.class.getDeclaredMethods()) {
            if (Modifier.isPrivate(method.getModifiers())) {
                DUE.no("private " + method.getName(), publicNames.contains(method.getName()));
            }
        }
    }
}
