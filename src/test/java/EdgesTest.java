import java.io.IOException;
import java.lang.reflect.InvocationTargetException;
import java.lang.reflect.Method;
import java.nio.file.Files;
import java.nio.file.Path;
import java.util.ArrayList;
import java.util.Comparator;
import java.util.List;
import java.util.TreeSet;

/** Each sentence of the document that names an edge, a test of its own. */
public final class EdgesTest {
    private static final Class<?>[] GROUPS = {ChartEdges.class, LakeEdges.class, HeadEdges.class};
    private static final int PROMISES = 27;
    private static final Check CHECK = new Check();

    private EdgesTest() {
    }

    /** The second argument may be the document: words that are not in it any more are noted. */
    public static void main(String[] arguments) throws IOException {
        List<Method> tests = tests();
        for (Method test : tests) {
            run(test);
        }
        CHECK.within("");
        everyPromiseHasTests(tests);
        if (arguments.length > 1) {
            noteWordsThatAreGone(tests, Files.readString(Path.of(arguments[1])));
        }
        System.out.println(tests.size() + " edges");
        CHECK.close();
    }

    private static List<Method> tests() {
        List<Method> found = new ArrayList<>();
        for (Class<?> group : GROUPS) {
            for (Method method : group.getDeclaredMethods()) {
                if (method.isAnnotationPresent(Says.class)) {
                    found.add(method);
                }
            }
        }
        found.sort(Comparator.comparingInt((Method test) -> test.getAnnotation(Says.class).promise())
                .thenComparing(Method::getName));
        return found;
    }

    /** A test that throws is wrong, and does not keep the next ones from their turn. */
    private static void run(Method test) {
        Says says = test.getAnnotation(Says.class);
        CHECK.within("promise " + says.promise() + ", \"" + says.words() + "\": ");
        int before = CHECK.checked();
        try {
            test.invoke(null, CHECK);
        } catch (InvocationTargetException e) {
            CHECK.due(test.getName() + " threw " + e.getCause(), false);
        } catch (IllegalAccessException e) {
            CHECK.due(test.getName() + " can't be called", false);
        }
        CHECK.due(test.getName() + " checks something", CHECK.checked() > before);
    }

    private static void everyPromiseHasTests(List<Method> tests) {
        TreeSet<Integer> found = new TreeSet<>();
        for (Method test : tests) {
            found.add(test.getAnnotation(Says.class).promise());
        }
        for (int promise = 0; promise <= PROMISES; promise++) {
            CHECK.due("promise " + promise + " has tests of its edges", found.contains(promise));
        }
    }

    private static void noteWordsThatAreGone(List<Method> tests, String document) {
        String plain = document.replaceAll("\\s+", " ");
        for (Method test : tests) {
            String words = test.getAnnotation(Says.class).words();
            if (!plain.contains(words)) {
                System.out.println("note: " + test.getName() + " tests words that are not in the document: " + words);
            }
        }
    }
}
