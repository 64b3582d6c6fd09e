import java.lang.reflect.Method;
import java.lang.reflect.Modifier;
import java.net.URL;
import java.net.URLClassLoader;
import java.nio.file.Files;
import java.nio.file.Path;
import java.util.regex.Matcher;
import java.util.regex.Pattern;
import javax.tools.ToolProvider;

/**
 * README.md says how to use the class: its example is compiled and run as it stands there, each
 * answer held against the one that its comment begins with; and it names every call of the face.
 */
public final class ReadmeTest {
    /** A call on the line, with or without a variable that takes its answer, and the answer. */
    private static final Pattern ANSWERED =
            Pattern.compile("(?:int (\\w+) = )?(line\\..*);\\s+// (-?\\d+|true|false)(?::.*)?");
    private static final Pattern MADE =
            Pattern.compile("ShareSolve line = new ShareSolve\\(\\d\\);\\s+// .*");

    private static int wrong = 0;
    private static int compared = 0;

    public static void main(String[] args) throws Exception {
        String readme = Files.readString(Path.of("README.md"));
        int start = readme.indexOf("```java\n");
        int end = readme.indexOf("\n```\n", start);
        if (start < 0 || end < 0) {
            fail("README.md has no example");
        } else {
            String example = readme.substring(start + "```java\n".length(), end);
            run(program(example));
            namesAllCalls(example, "the example");
            namesAllCalls(readme.substring(end), "what stands after the example");
        }
        if (!readme.contains("\n.ci/run\n")) {
            fail("README.md does not say how to run the tests");
        }
        System.out.println(compared + " answers of the example compared, " + wrong + " wrong");
        if (wrong != 0) {
            System.exit(1);
        }
    }

    /** Called by the program that is made of the example. */
    public static void due(String call, String want, Object got) {
        compared++;
        if (!want.equals(String.valueOf(got))) {
            fail(call + " answered " + got + ", README.md says " + want);
        }
    }

    private static void fail(String why) {
        wrong++;
        System.out.println(why);
    }

    private static String program(String example) {
        StringBuilder made = new StringBuilder("public class Example { public static void main(String[] a) {\n");
        for (String row : example.split("\n")) {
            Matcher answered = ANSWERED.matcher(row);
            if (answered.matches()) {
                made.append(asked(answered));
            } else if (MADE.matcher(row).matches() || row.isBlank()) {
                made.append(row).append('\n');
            } else {
                fail("README.md has a row in its example without an answer: " + row);
            }
        }
        return made.append("} }\n").toString();
    }

    private static String asked(Matcher row) {
        String variable = row.group(1);
        String call = row.group(2);
        String told = variable == null ? "" : "int " + variable + " = " + call + "; ";
        String got = variable == null ? call : variable;
        return told + "ReadmeTest.due(\"" + call + "\", \"" + row.group(3) + "\", " + got + ");\n";
    }

    private static void run(String program) throws Exception {
        Path made = Files.createTempDirectory("readme");
        Path source = made.resolve("Example.java");
        Path compiled = made.resolve("Example.class");
        try {
            Files.writeString(source, program);
            int answer = ToolProvider.getSystemJavaCompiler().run(null, null, null, "-d", made.toString(),
                    "-cp", System.getProperty("java.class.path"), source.toString());
            if (answer != 0) {
                fail("README.md's example does not compile");
                return;
            }
            try (URLClassLoader loader = new URLClassLoader(new URL[] {made.toUri().toURL()})) {
                loader.loadClass("Example").getMethod("main", String[].class)
                        .invoke(null, (Object) new String[0]);
            }
        } finally {
            Files.deleteIfExists(compiled);
            Files.deleteIfExists(source);
            Files.deleteIfExists(made);
        }
    }

    private static void namesAllCalls(String text, String where) {
        for (Method method : ShareSolve.class.getDeclaredMethods()) {
            Pattern call = Pattern.compile("\\b" + method.getName() + "\\(");
            if (Modifier.isPublic(method.getModifiers()) && !call.matcher(text).find()) {
                fail("README.md does not name " + method.getName() + "() in " + where);
            }
        }
    }
}
