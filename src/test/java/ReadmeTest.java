import java.io.File;
import java.lang.reflect.Method;
import java.net.URL;
import java.net.URLClassLoader;
import java.nio.file.Files;
import java.nio.file.Path;
import java.util.List;
import java.util.regex.Matcher;
import java.util.regex.Pattern;
import javax.tools.ToolProvider;

/** README.md's examples are run as they stand there: behind each call a comment begins with its answer. */
public final class ReadmeTest {
    private static final Pattern CALL = Pattern.compile("(suns\\..*\\)); +// (-?\\d+|true|false)\\b.*");
    private static final int FEWEST_EXAMPLES = 20;

    private static final Due DUE = new Due("readme");

    public static void main(String[] args) throws Exception {
        Path source = Path.of(args.length > 0 ? args[0] : "src/main/java/TwoSuns.java").toAbsolutePath();
        Path project = source.getParent().getParent().getParent().getParent();
        List<String> readme = Files.readAllLines(project.resolve("README.md"));
        Path made = Files.createTempDirectory("readme");
        try {
            run(made, programOf(readme));
        } finally {
            empty(made.toFile());
        }
        namesEachTest(readme, project.resolve("src/test/java").toFile());
        DUE.finish();
    }

    /** Called by the program that is made of the examples. */
    public static void due(String call, Object got, String want) {
        DUE.holds(call + " answered " + got + ", README.md says " + want, String.valueOf(got).equals(want));
    }

    private static String programOf(List<String> readme) {
        StringBuilder program = new StringBuilder("public class Examples { public static void run() {\n");
        boolean inside = false;
        int examples = 0;
        for (String line : readme) {
            Matcher call = CALL.matcher(line);
            if (line.startsWith("```")) {
                inside = line.equals("```java");
            } else if (inside && call.matches()) {
                String said = call.group(1).replace("\"", "\\\"");
                program.append("ReadmeTest.due(\"" + said + "\", " + call.group(1) + ", \"" + call.group(2) + "\");\n");
                examples++;
            } else if (inside) {
                DUE.holds("no call without its answer: " + line, !line.startsWith("suns."));
                program.append(line).append("\n");
            }
        }
        DUE.holds(examples + " examples are enough", examples >= FEWEST_EXAMPLES);
        return program.append("} }\n").toString();
    }

    private static void run(Path made, String program) throws Exception {
        Path file = made.resolve("Examples.java");
        Files.writeString(file, program);
        String classes = System.getProperty("java.class.path");
        int code = ToolProvider.getSystemJavaCompiler().run(null, null, null, "-cp", classes, "-d", made.toString(), file.toString());
        DUE.due("compiling the examples", code, 0);
        if (code == 0) {
            try (URLClassLoader loader = new URLClassLoader(new URL[] {made.toUri().toURL()})) {
                Method run = loader.loadClass("Examples").getMethod("run");
                run.invoke(null);
            }
        }
    }

    private static void namesEachTest(List<String> readme, File tests) {
        String all = String.join("\n", readme);
        for (String file : tests.list()) {
            if (file.endsWith("Test.java")) {
                String name = file.replace(".java", "").replaceFirst("^BoundsOf.*Test$", "BoundsOf..Test");
                DUE.holds("README.md names " + name, all.contains("| `" + name + "`"));
            }
        }
    }

    private static void empty(File directory) {
        for (File file : directory.listFiles()) {
            file.delete();
        }
        directory.delete();
    }
}
