import java.io.IOException;
import java.lang.reflect.Method;
import java.lang.reflect.Modifier;
import java.net.MalformedURLException;
import java.net.URL;
import java.net.URLClassLoader;
import java.nio.file.Files;
import java.nio.file.Path;
import java.util.ArrayList;
import java.util.Comparator;
import java.util.List;
import java.util.regex.Matcher;
import java.util.regex.Pattern;
import java.util.stream.Stream;
import javax.tools.JavaCompiler;
import javax.tools.ToolProvider;

/**
 * The Java that README.md shows is compiled as it stands there and run, on the class and on Model: what stands behind a
 * call's '//' is its answer.
 */
public final class ReadmeTest {
    private static final Checks C = new Checks();
    private static final Path PAGE = Path.of("README.md");
    private static final Pattern CALL = Pattern.compile("(?:int (\\w+) = )?(force\\.(\\w+)\\(.*\\)); *// (-?[0-9]+)(:.*)?");
    private static final int MOST_CALLS = 512;

    public static void main(String[] args) throws Exception {
        List<String> lines = javaLines(Files.readAllLines(PAGE));
        everyLine(lines);
        everyCall(lines);
        run("ClothForce", lines);
        run("Model", lines);
        C.finish();
    }

    /** What stands between ```java and ```, without lines that are empty. */
    private static List<String> javaLines(List<String> page) {
        List<String> found = new ArrayList<>();
        boolean inside = false;
        for (String line : page) {
            boolean fence = line.startsWith("```");
            if (inside && !fence && !line.isBlank()) {
                found.add(line.strip());
            }
            inside = fence ? line.equals("```java") : inside;
        }
        return found;
    }

    private static void everyLine(List<String> lines) {
        C.test("README.md: each call is shown with its answer, within 512 calls of one object");
        C.due("the first line makes the object", lines.indexOf("ClothForce force = new ClothForce();"), 0);
        for (String line : lines.subList(Math.min(1, lines.size()), lines.size())) {
            C.due("'" + line + "' is a call with an answer", CALL.matcher(line).matches() ? 1 : 0, 1);
        }
        C.due("within 512 calls", lines.size() <= MOST_CALLS ? 1 : 0, 1);
    }

    private static void everyCall(List<String> lines) {
        C.test("README.md: each call of the face is shown");
        List<String> shown = new ArrayList<>();
        for (String line : lines) {
            Matcher call = CALL.matcher(line);
            if (call.matches()) {
                shown.add(call.group(3));
            }
        }
        for (Method m : ClothForce.class.getDeclaredMethods()) {
            if (Modifier.isPublic(m.getModifiers())) {
                C.due(m.getName() + " is shown", shown.contains(m.getName()) ? 1 : 0, 1);
            }
        }
    }

    private static void run(String type, List<String> lines) throws Exception {
        C.test("README.md: the answers that it shows are those of " + type);
        Path out = Files.createTempDirectory("readme");
        try {
            int code = compile(out, program(type, lines));
            C.due("the compiler", code, 0);
            if (code == 0) {
                compare(lines, answers(out));
            }
        } finally {
            delete(out);
        }
    }

    /** A program of these lines as they stand, each answer put into a row. */
    private static String program(String type, List<String> lines) {
        StringBuilder text = new StringBuilder("public final class ReadmeCalls {\n    public static long[] answers() {\n");
        text.append("        long[] a = new long[").append(lines.size()).append("];\n");
        for (int i = 0; i < lines.size(); i++) {
            Matcher call = CALL.matcher(lines.get(i));
            if (!call.matches()) {
                text.append(lines.get(i).replace("ClothForce", type));
            } else if (call.group(1) == null) {
                text.append("a[").append(i).append("] = ").append(call.group(2)).append(";");
            } else {
                text.append(lines.get(i)).append("\na[").append(i).append("] = ").append(call.group(1)).append(";");
            }
            text.append("\n");
        }
        return text.append("        return a;\n    }\n}\n").toString();
    }

    private static int compile(Path out, String program) throws IOException {
        Path file = out.resolve("ReadmeCalls.java");
        Files.writeString(file, program);
        JavaCompiler compiler = ToolProvider.getSystemJavaCompiler();
        String classes = System.getProperty("java.class.path");
        return compiler.run(null, null, null, "-cp", classes, "-d", out.toString(), file.toString());
    }

    private static long[] answers(Path out) throws Exception {
        try (URLClassLoader loader = loader(out)) {
            return (long[]) loader.loadClass("ReadmeCalls").getDeclaredMethod("answers").invoke(null);
        }
    }

    /** One loader for all classes: the Model is only seen by those of its own one. */
    private static URLClassLoader loader(Path out) throws MalformedURLException {
        List<URL> places = new ArrayList<>();
        places.add(out.toUri().toURL());
        for (String place : System.getProperty("java.class.path").split(java.io.File.pathSeparator)) {
            places.add(Path.of(place).toUri().toURL());
        }
        // Names the Model, so that it is compiled with this test.
        C.due("the model is there", Model.class.getName().equals("Model") ? 1 : 0, 1);
        return new URLClassLoader(places.toArray(new URL[0]), ClassLoader.getPlatformClassLoader());
    }

    private static void compare(List<String> lines, long[] answers) {
        for (int i = 0; i < lines.size(); i++) {
            Matcher call = CALL.matcher(lines.get(i));
            if (call.matches()) {
                C.due("'" + call.group(2) + "'", answers[i], Long.parseLong(call.group(4)));
            }
        }
    }

    private static void delete(Path folder) throws IOException {
        try (Stream<Path> all = Files.walk(folder)) {
            for (Path path : all.sorted(Comparator.reverseOrder()).toList()) {
                Files.delete(path);
            }
        }
    }
}
