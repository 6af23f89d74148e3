import java.io.IOException;
import java.lang.reflect.InvocationTargetException;
import java.lang.reflect.Method;
import java.nio.charset.StandardCharsets;
import java.nio.file.Files;
import java.nio.file.Path;
import java.util.ArrayList;
import java.util.Comparator;
import java.util.HashSet;
import java.util.List;
import java.util.Set;

/** Runs every test that says a sentence of the document, and sees to it that no promise is without one. */
public final class EdgeTests {
    private static final Class<?>[] ALL = {EdgesOfPages.class, EdgesOfRows.class, EdgesOfBalloons.class,
        EdgesOfSpots.class, EdgesOfQuestions.class, EdgesOfLeaves.class, EdgesOfReader.class};
    private static final Path DOCUMENT = Path.of("../shared/DOC.md");

    private EdgeTests() {
    }

    private static List<Method> testsOf(Class<?> group) {
        List<Method> tests = new ArrayList<>();
        for (Method method : group.getDeclaredMethods()) {
            if (method.isAnnotationPresent(Says.class)) {
                tests.add(method);
            }
        }
        tests.sort(Comparator.comparing(Method::getName));
        return tests;
    }

    private static void run(Method test) throws ReflectiveOperationException {
        Says says = test.getAnnotation(Says.class);
        Check.about(says.at() + " \"" + says.value() + "\", " + test.getName());
        int before = Check.asked();
        try {
            test.invoke(null);
        } catch (InvocationTargetException e) {
            Check.due("no exception", e.getCause());
        }
        Check.due(true, Check.asked() > before);
    }

    /** A sentence that the document does not say (any more) is told, but what the program does may be right. */
    private static void compareWithDocument(List<Says> said) throws IOException {
        if (!Files.exists(DOCUMENT)) {
            return;
        }
        String text = plain(new String(Files.readAllBytes(DOCUMENT), StandardCharsets.UTF_8));
        for (Says says : said) {
            if (!text.contains(plain(says.value()))) {
                System.out.println("note: the document does not say: " + says.value());
            }
        }
    }

    private static String plain(String text) {
        return text.replace("`", "").replaceAll("\\s+", " ").trim();
    }

    public static void main(String[] args) throws IOException, ReflectiveOperationException {
        List<Says> said = new ArrayList<>();
        Set<String> places = new HashSet<>();
        for (Class<?> group : ALL) {
            for (Method test : testsOf(group)) {
                run(test);
                said.add(test.getAnnotation(Says.class));
                places.add(test.getAnnotation(Says.class).at());
            }
        }
        for (int promise = 1; promise <= 34; promise++) {
            Check.about("a test of Promise " + promise);
            Check.due(true, places.contains("Promise " + promise));
        }
        compareWithDocument(said);
        System.out.println("EdgeTests: " + said.size() + " sentences with their tests");
        Check.close("EdgeTests");
    }
}
