import java.util.Set;

/** Counts what is as due and tells what is not. */
final class Check {
    static final String INDEX = "IndexOutOfBoundsException";
    static final String ARGUMENT = "IllegalArgumentException";
    static final String STATE = "IllegalStateException";

    /** Classes whose methods stand between a test and what it asks. */
    private static final Set<String> NO_TESTS = Set.of("Check", "Houses", "Edges", "Inquiry");

    /** A call of the program; what it answers is compared as a text. */
    interface Call {
        Object run();
    }

    private static String about = "";
    private static int asDue;
    private static int notAsDue;

    private Check() {
    }

    /** Whatever is asked from here on is asked of this promise. */
    static void promise(int number) {
        about("promise " + number);
    }

    /** Whatever is asked from here on is asked of this. */
    static void about(String what) {
        about = what;
    }

    static int asked() {
        return asDue + notAsDue;
    }

    static void due(Object want, Object got) {
        if (String.valueOf(want).equals(String.valueOf(got))) {
            asDue++;
            return;
        }
        notAsDue++;
        String is = String.valueOf(got);
        String asked = String.valueOf(want);
        int from = isLong(is) && isLong(asked) ? Math.max(firstDifference(is, asked) - 60, 0) : 0;
        System.out.println(about + ", " + testThatAsked() + ": answered " + partOf(is, from) + ", due is "
            + partOf(asked, from));
    }

    private static boolean isLong(String text) {
        return text.length() > 300;
    }

    private static int firstDifference(String one, String other) {
        int at = 0;
        while (at < one.length() && at < other.length() && one.charAt(at) == other.charAt(at)) {
            at++;
        }
        return at;
    }

    private static String partOf(String text, int from) {
        return isLong(text) ? ".. " + text.substring(from, Math.min(from + 160, text.length())) + " .." : text;
    }

    private static String testThatAsked() {
        for (StackTraceElement element : new Throwable().getStackTrace()) {
            if (!NO_TESTS.contains(element.getClassName())) {
                return element.getMethodName() + " at line " + element.getLineNumber();
            }
        }
        return "some test";
    }

    static void fails(String exception, Call call) {
        Object got;
        try {
            got = call.run();
        } catch (RuntimeException e) {
            got = nameOf(e);
        }
        due(exception, got);
    }

    /** An exception that the machine or its library throws is not one that the program throws itself. */
    static String nameOf(Throwable thrown) {
        StackTraceElement[] stack = thrown.getStackTrace();
        boolean own = stack.length > 0 && !stack[0].getClassName().startsWith("java")
            && !stack[0].getClassName().startsWith("jdk");
        return thrown.getClass().getSimpleName() + (own ? "" : " of the machine");
    }

    /** Each call throws, and what can be asked of the house with few calls is answered as before. */
    static void failsUnchanged(GutterPages house, String exception, Call... calls) {
        String before = allOf(house);
        for (Call call : calls) {
            fails(exception, call);
        }
        due(before, allOf(house));
    }

    static String allOf(GutterPages x) {
        StringBuilder all = new StringBuilder();
        for (int page = 0; page < x.pages(); page++) {
            all.append("page ").append(page).append(" rows ").append(x.rows(page));
            for (int place = 0; place < x.panels(page); place++) {
                int panel = x.panelAt(page, place);
                all.append(" panel ").append(panel).append(boxOf(x, panel));
            }
        }
        for (int place = 0; place < x.balloons(); place++) {
            int balloon = x.read(place);
            all.append(" balloon ").append(balloon).append(spotOf(x, balloon)).append(x.placeOf(balloon))
                .append(x.placeByPairs(balloon)).append(x.depth(balloon));
        }
        return all.append(x.leaves(4)).append(" at ").append(x.here()).toString();
    }

    /** Row, left, top, width, height. */
    static String boxOf(GutterPages x, int panel) {
        StringBuilder box = new StringBuilder("[");
        for (int what = 0; what < 5; what++) {
            box.append(what == 0 ? "" : " ").append(x.lies(panel, what));
        }
        return box.append("]").toString();
    }

    /** Panel, column, line, width, height. */
    static String spotOf(GutterPages x, int balloon) {
        StringBuilder spot = new StringBuilder("[");
        for (int what = 0; what < 5; what++) {
            spot.append(what == 0 ? "" : " ").append(x.floats(balloon, what));
        }
        return spot.append("]").toString();
    }

    static void close(String name) {
        System.out.println(name + ": " + asDue + " answers as due, " + notAsDue + " not");
        if (notAsDue > 0 || asDue == 0) {
            System.exit(1);
        }
    }
}
