import java.util.regex.Pattern;

/** The rules of codes, told by patterns over their levels' digits and so unlike the program's own way. */
final class Codes {
    private static final Pattern TOPIC = Pattern.compile("[1-9a-d]{1,3}0*");
    private static final Pattern FILTER = Pattern.compile("[1-9a-e]{0,2}[1-9a-f]0*");

    private Codes() {
    }

    private static String digits(int code) {
        return new StringBuilder(String.format("%03x", code)).reverse().toString();
    }

    private static boolean inRange(int code) {
        return code >= 0 && code <= 4095;
    }

    static boolean isTopic(int code) {
        return inRange(code) && TOPIC.matcher(digits(code)).matches();
    }

    static boolean isFilter(int code) {
        return inRange(code) && FILTER.matcher(digits(code)).matches();
    }

    /** A topic as text, every level with a slash behind it. */
    static String path(int topic) {
        return digits(topic).replace("0", "").replaceAll("(.)", "$1/");
    }

    /** What the path of a topic must look like for the filter to match it. */
    static Pattern pattern(int filter) {
        String levels = digits(filter).replace("0", "").replaceAll("(.)", "$1/");
        return Pattern.compile(levels.replace("e/", "[^/]/").replace("f/", ".*"));
    }
}
