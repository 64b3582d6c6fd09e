import java.io.IOException;
import java.lang.reflect.InvocationTargetException;
import java.lang.reflect.Method;
import java.nio.file.Files;
import java.nio.file.Path;
import java.util.ArrayList;
import java.util.Comparator;
import java.util.List;
import java.util.Set;
import java.util.TreeSet;

/** Runs the tests of a class, each of which belongs to one sentence of the document. */
class Sentences {
    static final int NONE = ShareSolve.NONE;
    private static final Path DOCUMENT = Path.of("..", "shared", "DOC.md");
    private static Sentence current;
    private static int compared;
    private static int wrong;

    /** Runs all tests of the class; each of the promises must have one. */
    static void run(Class<?> tests, int... promises) {
        List<Method> methods = testsOf(tests);
        Set<Integer> seen = new TreeSet<>();
        for (Method method : methods) {
            seen.add(method.getAnnotation(Sentence.class).promise());
            runOne(method);
        }
        for (int promise : promises) {
            if (!seen.contains(promise)) {
                wrong++;
                System.out.println("promise " + promise + " has no test in " + tests.getName());
            }
        }
        System.out.println(methods.size() + " sentences, " + wrong + " wrong");
        if (wrong != 0) {
            System.exit(1);
        }
    }

    static void due(String call, long want, long got) {
        compared++;
        if (got != want) {
            complain(call + " answered " + got + ", due is " + want);
        }
    }

    static void yes(String call, boolean got) {
        due(call, 1, got ? 1 : 0);
    }

    static void no(String call, boolean got) {
        due(call, 0, got ? 1 : 0);
    }

    private static List<Method> testsOf(Class<?> tests) {
        List<Method> methods = new ArrayList<>();
        for (Method method : tests.getDeclaredMethods()) {
            if (method.isAnnotationPresent(Sentence.class)) {
                methods.add(method);
            }
        }
        Comparator<Method> byPromise =
                Comparator.comparingInt(m -> m.getAnnotation(Sentence.class).promise());
        methods.sort(byPromise.thenComparing(Method::getName));
        return methods;
    }

    private static void runOne(Method method) {
        current = method.getAnnotation(Sentence.class);
        compared = 0;
        try {
            method.setAccessible(true);
            method.invoke(null);
        } catch (InvocationTargetException thrown) {
            complain(method.getName() + " met " + thrown.getCause());
        } catch (IllegalAccessException refused) {
            complain(method.getName() + " can't be called");
        }
        if (compared < 2) {
            complain(method.getName() + " does not look at both sides");
        }
        if (!documentSaysIt()) {
            complain("the document has no such sentence there");
        }
    }

    private static void complain(String what) {
        wrong++;
        System.out.println("promise " + current.promise() + ", \"" + current.says() + "\": " + what);
    }

    /** So that a test never names a sentence that is not there; without a document it can't tell. */
    private static boolean documentSaysIt() {
        if (!Files.isReadable(DOCUMENT)) {
            return true;
        }
        try {
            String[] sections = Files.readString(DOCUMENT).split("## (Promise \\d+:|Not promised)");
            int promise = current.promise();
            return promise < sections.length && flat(sections[promise]).contains(flat(current.says()));
        } catch (IOException unreadable) {
            return true;
        }
    }

    private static String flat(String text) {
        return text.replaceAll("\\s+", " ");
    }
}
