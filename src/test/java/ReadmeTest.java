import java.net.URL;
import java.net.URLClassLoader;
import java.nio.file.Files;
import java.nio.file.Path;
import java.util.regex.Matcher;
import java.util.regex.Pattern;
import javax.tools.ToolProvider;

/** The examples of README.md, as one program: a line that ends with a colon and a number answers that number. */
public final class ReadmeTest {
    private static final Pattern EXAMPLE = Pattern.compile("```java\n(.*?)```", Pattern.DOTALL);
    private static final Pattern TOLD = Pattern.compile("(inn\\..*);\\s+// (.*): (-?\\d+)");
    private static final int LEAST_TOLD = 30;
    private static int told = 0;

    private ReadmeTest() {
    }

    /** What the examples call; public, as their class comes by a loader of its own. */
    public static void due(String what, long got, long want) {
        told++;
        Due.is(what, got, want);
    }

    private static String program(String readme) {
        StringBuilder lines = new StringBuilder();
        Matcher example = EXAMPLE.matcher(readme);
        while (example.find()) {
            lines.append(TOLD.matcher(example.group(1)).replaceAll("ReadmeTest.due(\"$2\", $1, $3);"));
        }
        return "public final class ReadmeRuns {\npublic static void main(String[] args) {\n" + lines + "}\n}\n";
    }

    private static void run(Path folder, String program) throws Exception {
        Path source = Files.writeString(folder.resolve("ReadmeRuns.java"), program);
        int failed = ToolProvider.getSystemJavaCompiler().run(null, null, null,
            "-cp", System.getProperty("java.class.path"), "-d", folder.toString(), source.toString());
        Due.is("compiling the examples", failed, 0);
        if (failed == 0) {
            try (URLClassLoader loader = new URLClassLoader(new URL[] {folder.toUri().toURL()})) {
                loader.loadClass("ReadmeRuns").getMethod("main", String[].class).invoke(null, (Object) new String[0]);
            }
        }
    }

    /** Takes README.md and a folder that may be written to. */
    public static void main(String[] args) throws Exception {
        run(Path.of(args[1]), program(Files.readString(Path.of(args[0]))));
        Due.so("the examples are found", told >= LEAST_TOLD);
        Due.finish();
    }
}
