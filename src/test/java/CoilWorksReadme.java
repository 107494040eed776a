import java.lang.reflect.Method;
import java.lang.reflect.Modifier;
import java.net.URL;
import java.net.URLClassLoader;
import java.nio.file.Files;
import java.nio.file.Path;
import java.util.ArrayList;
import java.util.List;
import java.util.regex.Matcher;
import java.util.regex.Pattern;
import javax.tools.JavaCompiler;
import javax.tools.ToolProvider;

/**
 * The examples of README.md, compiled as they stand and run as one row of calls, with the answers that stand beside
 * them; and what README.md names: every call of the class, every test of the project. It runs in the project's directory.
 */
public final class CoilWorksReadme {
    private static final Pattern WITH_ANSWER = Pattern.compile("(\\w+\\.\\w+\\(.*\\));\\s*// (-?\\d+)(:.*)?");
    private static int examples = 0;
    private static int wrong = 0;

    public static void main(String[] args) throws Exception {
        Path readme = Path.of("README.md");
        if (!Files.isRegularFile(readme)) {
            System.out.println("README.md is not here: run this test in the project's directory");
            System.exit(1);
        }
        List<String> lines = Files.readAllLines(readme);
        runExamples(examplesOf(lines));
        everyCallIsShown(String.join("\n", lines));
        everyTestIsNamed(String.join("\n", lines));
        System.out.println("readme: " + examples + " examples, " + wrong + " are not as due");
        if (wrong != 0 || examples == 0) System.exit(1);
    }

    /** The examples call this. */
    public static void due(String example, long got, long want) {
        examples++;
        if (got != want) fail(example + " answered " + got + ", README.md says " + want);
    }

    private static void fail(String what) {
        wrong++;
        System.out.println(what);
    }

    /** The lines between ```java and ```; of a call with its answer beside it: that it is due. */
    private static List<String> examplesOf(List<String> lines) {
        List<String> found = new ArrayList<>();
        boolean inside = false;
        for (int i = 0; i < lines.size(); i++) {
            String line = lines.get(i);
            if (line.startsWith("```")) inside = line.equals("```java");
            else if (inside) found.add(toDue(i + 1, line));
        }
        return found;
    }

    private static String toDue(int number, String line) {
        Matcher call = WITH_ANSWER.matcher(line);
        if (call.matches()) {
            String where = "\"line " + number + ": " + call.group(1).replace("\"", "\\\"") + "\"";
            return "CoilWorksReadme.due(" + where + ", " + call.group(1) + ", " + call.group(2) + "L);";
        }
        if (line.startsWith("x.")) fail("line " + number + ": no answer stands beside " + line);
        return line;
    }

    private static void runExamples(List<String> found) throws Exception {
        Path room = Files.createTempDirectory("readme");
        Path source = room.resolve("ReadmeExamples.java");
        Files.writeString(source, "public class ReadmeExamples {\n    public static void run() {\n"
                + String.join("\n", found) + "\n    }\n}\n");
        String classes = System.getProperty("java.class.path");
        JavaCompiler compiler = ToolProvider.getSystemJavaCompiler();
        int failed = compiler.run(null, System.out, System.out, "-cp", classes, "-d", room.toString(), source.toString());
        if (failed != 0) {
            fail("the examples can not be compiled");
        } else {
            URL[] place = {room.toUri().toURL()};
            try (URLClassLoader loader = new URLClassLoader(place, CoilWorksReadme.class.getClassLoader())) {
                loader.loadClass("ReadmeExamples").getMethod("run").invoke(null);
            }
        }
        Files.deleteIfExists(room.resolve("ReadmeExamples.class"));
        Files.deleteIfExists(source);
        Files.deleteIfExists(room);
    }

    private static void everyCallIsShown(String readme) {
        for (Method method : CoilWorks.class.getDeclaredMethods()) {
            String name = method.getName();
            if (!Modifier.isPublic(method.getModifiers())) continue;
            if (!readme.contains("x." + name + "(")) fail("no example calls " + name);
            if (!readme.contains("| `" + name + "(") && !readme.contains(", `" + name + "(")) fail("no table names " + name);
        }
    }

    private static void everyTestIsNamed(String readme) throws Exception {
        try (var files = Files.list(Path.of("src/test/java"))) {
            for (Path file : files.toList()) {
                String name = file.getFileName().toString().replace(".java", "");
                if (!readme.contains("`" + name + "`")) fail("README.md does not name the test " + name);
            }
        }
    }
}
