import java.lang.reflect.Method;
import java.lang.reflect.Modifier;
import java.net.URL;
import java.net.URLClassLoader;
import java.nio.file.Files;
import java.nio.file.Path;
import java.util.regex.Matcher;
import java.util.regex.Pattern;
import javax.tools.ToolProvider;

/**
 * What README.md shows as Java is compiled and run: each call there answers what stands behind it, and
 * every call of the face is shown.
 */
public final class FarKeysReadme {
    private static final Pattern BLOCK = Pattern.compile("```java\\n(.*?)```", Pattern.DOTALL);
    private static final Pattern CALL = Pattern.compile("(keys\\.(\\w+)\\(.*\\)); +// (-?\\w+).*");

    private static int checks = 0;
    private static int wrong = 0;

    /** Called by what README.md shows. */
    public static void due(String call, Object got, Object want) {
        checks++;
        holds(got.equals(want), call + " answered " + got + ", README.md says " + want);
    }

    private static void holds(boolean so, String what) {
        if (!so) {
            wrong++;
            System.out.println(what);
        }
    }

    public static void main(String[] args) throws Exception {
        String readme = Files.readString(Path.of("README.md"));
        StringBuilder members = new StringBuilder();
        StringBuilder calls = new StringBuilder();
        Matcher block = BLOCK.matcher(readme);
        while (block.find()) {
            if (block.group(1).startsWith("static ")) {
                members.append(block.group(1));
            } else {
                addCalls(block.group(1), calls);
            }
        }
        for (Method method : FarKeys.class.getDeclaredMethods()) {
            String name = method.getName();
            boolean isFace = Modifier.isPublic(method.getModifiers());
            holds(!isFace || members.indexOf("keys." + name + "(") >= 0 || calls.indexOf("keys." + name + "(") >= 0,
                    "README.md does not show " + name);
        }
        run("public final class Shown {\n    private static final int NONE = FarKeys.NONE;\n" + members
                + "public static void main(String[] args) {\n" + calls + "}\n}\n");
        holds(checks >= 40, "README.md shows " + checks + " answers");
        System.out.println(wrong == 0 ? "all " + checks + " answers in README.md hold" : wrong + " things in README.md do not hold");
        if (wrong != 0) System.exit(1);
    }

    /** A call with its answer behind it becomes a check; all other lines stay as they are. */
    private static void addCalls(String block, StringBuilder calls) {
        for (String line : block.split("\n")) {
            Matcher call = CALL.matcher(line);
            if (call.matches()) {
                String quoted = call.group(1).replace("\"", "\\\"");
                calls.append("FarKeysReadme.due(\"" + quoted + "\", " + call.group(1) + ", " + call.group(3) + ");\n");
            } else {
                holds(!line.startsWith("keys."), "no answer stands behind " + line);
                calls.append(line).append('\n');
            }
        }
    }

    private static void run(String source) throws Exception {
        Path work = Files.createTempDirectory("readme");
        Path file = work.resolve("Shown.java");
        Path compiled = work.resolve("Shown.class");
        Files.writeString(file, source);
        String path = System.getProperty("java.class.path");
        int refused = ToolProvider.getSystemJavaCompiler().run(null, null, null, "-cp", path, "-d", work.toString(), file.toString());
        holds(refused == 0, "what README.md shows does not compile");
        if (refused == 0) {
            try (URLClassLoader loader = new URLClassLoader(new URL[] {work.toUri().toURL()})) {
                loader.loadClass("Shown").getMethod("main", String[].class).invoke(null, (Object) new String[0]);
            }
        }
        Files.deleteIfExists(compiled);
        Files.deleteIfExists(file);
        Files.deleteIfExists(work);
    }
}
