import java.io.IOException;
import java.lang.reflect.Field;
import java.lang.reflect.Member;
import java.lang.reflect.Method;
import java.lang.reflect.Modifier;
import java.nio.charset.StandardCharsets;
import java.nio.file.Files;
import java.nio.file.Path;
import java.util.ArrayList;
import java.util.Arrays;
import java.util.HashSet;
import java.util.List;
import java.util.Set;

/** The face is that of the document, to the word, and the file keeps to what LANGUAGE.md tells of its form. */
public final class FaceTest {
    private static final String INDEX = "IndexOutOfBoundsException";
    private static final String ARGUMENT = "IllegalArgumentException";
    private static final String STATE = "IllegalStateException";
    private static final String[][] FACE = {
        {"int page 0", STATE},
        {"int panel 5", INDEX, ARGUMENT, STATE},
        {"int movePanel 2", INDEX, STATE},
        {"int cutPanel 1", INDEX, STATE},
        {"int face 4", INDEX, ARGUMENT, STATE},
        {"int balloon 3", INDEX, ARGUMENT, STATE},
        {"void moveBalloon 3", INDEX, STATE},
        {"int cutBalloon 1", INDEX, STATE},
        {"int answer 2", INDEX, STATE},
        {"int translate 2", INDEX, ARGUMENT, STATE},
        {"int setGrowth 2", ARGUMENT, STATE},
        {"int pages 0"},
        {"int rows 1", INDEX},
        {"int panels 1", INDEX},
        {"int panelAt 2", INDEX},
        {"int lies 2", INDEX, ARGUMENT},
        {"int floats 2", INDEX, ARGUMENT},
        {"int cell 3", INDEX},
        {"int balloons 0"},
        {"int read 1", INDEX},
        {"int placeOf 1", INDEX},
        {"int placeByPairs 1", INDEX},
        {"int depth 1", INDEX},
        {"boolean spread 1", INDEX, STATE},
        {"int leaves 1", ARGUMENT},
        {"int leaf 2", INDEX, ARGUMENT},
        {"int beside 2", INDEX, ARGUMENT},
        {"int sheet 2", INDEX, ARGUMENT},
        {"int open 0"},
        {"int forth 0"},
        {"int jump 1", INDEX},
        {"int back 0"},
        {"int here 0"},
    };
    private static final String[] NOT_IN_THE_FILE = {"catch", "finally", "->", "::", "System.", "synchronized",
        "assert", "Exact(", "static {", "package ", "protected ", "Math.random", "@"};

    /** Ahead of which call the interface says what. */
    private static final String[][] HEADINGS = {
        {"int page(", "---- pages and panels"},
        {"int balloon(", "---- balloons"},
        {"int translate(", "---- tongues"},
        {"int pages(", "---- where things lie"},
        {"int balloons(", "---- the order of reading"},
        {"boolean spread(", "---- spreads and signatures"},
        {"int open(", "---- the reader"},
    };

    private static final List<String> WRONG = new ArrayList<>();

    private FaceTest() {
    }

    private static void need(boolean holds, String what) {
        if (!holds) {
            WRONG.add(what);
        }
    }

    private static void lookAtFace() {
        Class<?> house = GutterPages.class;
        need(Modifier.isPublic(house.getModifiers()) && Modifier.isFinal(house.getModifiers()), "public and final");
        need(house.getDeclaredConstructors().length == 1 && house.getConstructors().length == 1
            && house.getConstructors()[0].getParameterCount() == 0, "one public constructor");
        Set<String> want = new HashSet<>();
        for (String[] call : FACE) {
            want.add(String.join(" ", call));
        }
        Set<String> got = new HashSet<>();
        for (Method method : house.getDeclaredMethods()) {
            if (!Modifier.isPrivate(method.getModifiers()) && !method.isSynthetic()) {
                got.add(told(method));
            }
        }
        need(want.equals(got), "the calls are " + got);
        need(want.size() == FACE.length, "33 calls");
    }

    private static String told(Method method) {
        StringBuilder told = new StringBuilder(method.getReturnType().getName());
        told.append(' ').append(method.getName()).append(' ').append(method.getParameterCount());
        for (Class<?> type : method.getParameterTypes()) {
            need(type == int.class, method.getName() + " takes ints");
        }
        for (Class<?> exception : method.getExceptionTypes()) {
            told.append(' ').append(exception.getSimpleName());
        }
        return told.toString();
    }

    private static void lookAtMembers() {
        Set<String> publicNames = new HashSet<>();
        for (String[] call : FACE) {
            publicNames.add(call[0].split(" ")[1]);
        }
        List<Class<?>> all = new ArrayList<>(Arrays.asList(GutterPages.class.getDeclaredClasses()));
        need(all.size() < 12, "at most some twelve classes");
        for (Field field : GutterPages.class.getDeclaredFields()) {
            need(Modifier.isPrivate(field.getModifiers()), "private: " + field);
        }
        for (Class<?> inside : all) {
            need(Modifier.isStatic(inside.getModifiers()) && Modifier.isPrivate(inside.getModifiers()),
                "private and static: " + inside);
        }
        all.add(GutterPages.class);
        for (Class<?> one : all) {
            for (Field field : one.getDeclaredFields()) {
                need(!Modifier.isStatic(field.getModifiers()) || isConstant(field), "constant: " + field);
            }
            for (Method method : one.getDeclaredMethods()) {
                need(isOfFace(method) || !publicNames.contains(method.getName()), "another name: " + method);
                need(method.getParameterCount() <= 7, "seven parameters: " + method);
            }
        }
    }

    private static boolean isOfFace(Member method) {
        return method.getDeclaringClass() == GutterPages.class && Modifier.isPublic(method.getModifiers());
    }

    private static boolean isConstant(Field field) {
        return Modifier.isFinal(field.getModifiers()) && field.getType() == int.class;
    }

    private static void lookAtFile(String path) throws IOException {
        String text = new String(Files.readAllBytes(Path.of(path)), StandardCharsets.ISO_8859_1);
        for (int i = 0; i < text.length(); i++) {
            need(text.charAt(i) < 128, "sign " + (int) text.charAt(i));
        }
        for (String line : text.split("\n")) {
            boolean comment = line.strip().startsWith("/*") || line.strip().startsWith("*")
                || line.strip().startsWith("//");
            need(!line.startsWith("import") || line.equals("import java.util.ArrayList;"), line);
            for (String word : NOT_IN_THE_FILE) {
                need(comment || !line.contains(word), "without " + word + ": " + line);
            }
        }
    }

    private static void lookAtHeadings(String path) throws IOException {
        List<String> lines = Files.readAllLines(Path.of(path), StandardCharsets.ISO_8859_1);
        for (String[] heading : HEADINGS) {
            String ahead = "";
            for (String line : lines) {
                if (line.startsWith("    public " + heading[0])) {
                    need(ahead.equals("// " + heading[1]), "ahead of " + heading[0] + " stands " + ahead);
                }
                ahead = line.isBlank() ? ahead : line.strip();
            }
        }
    }

    public static void main(String[] args) throws IOException {
        lookAtFace();
        lookAtMembers();
        lookAtFile("src/main/java/GutterPages.java");
        lookAtHeadings("src/main/java/GutterPages.java");
        for (String wrong : WRONG) {
            System.out.println("not so: " + wrong);
        }
        System.out.println("FaceTest: " + WRONG.size() + " things not so");
        if (!WRONG.isEmpty()) {
            System.exit(1);
        }
    }
}
