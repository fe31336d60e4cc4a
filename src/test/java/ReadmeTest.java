import java.net.URL;
import java.net.URLClassLoader;
import java.nio.file.Files;
import java.nio.file.Path;
import java.util.ArrayList;
import java.util.Comparator;
import java.util.List;
import java.util.regex.Matcher;
import java.util.regex.Pattern;
import java.util.stream.Stream;
import javax.tools.ToolProvider;

/** README.md: its examples, one behind another, answer what stands behind them; it names every call of the document. */
public final class ReadmeTest {
    private static final Pattern BLOCK = Pattern.compile("(?s)```java\\n(.*?)```");
    private static final Pattern ANSWERED = Pattern.compile("^(x\\..*); +// (-?\\d+)(:.*)?$");
    private static final int FEWEST_EXAMPLES = 40;
    private static int passed = 0;
    private static int failed = 0;

    private ReadmeTest() {
    }

    /** Called by the examples, too, which are compiled from the page. */
    public static void due(String what, long got, long want) {
        if (got == want) {
            passed++;
            return;
        }
        failed++;
        System.out.println("README.md: " + what + " answered " + got + ", due is " + want);
    }

    public static void main(String[] args) throws Exception {
        String page = Files.readString(Path.of(args.length > 0 ? args[0] : "README.md"));
        String document = Files.readString(Path.of("../shared/DOC.md"));
        Path out = Files.createTempDirectory("readme");
        try {
            runExamples(page, out);
        } finally {
            remove(out);
        }
        due("the number of examples is great enough", passed + failed >= FEWEST_EXAMPLES ? 1 : 0, 1);
        Matcher calls = Pattern.compile("public \\w+ (\\w+)\\(").matcher(document);
        while (calls.find()) due("it names " + calls.group(1), page.contains("`" + calls.group(1) + "`") ? 1 : 0, 1);
        for (String word : List.of("`UNKNOWN` -1", "`OUTSIDE` -2", "`STATE` -3", "`FULL` -4", "`NO` -5", "`NONE` -6", "`LOST`", "`.ci/run`")) {
            due("it names " + word, page.contains(word) ? 1 : 0, 1);
        }
        System.out.println(passed + " passed, " + failed + " failed");
        if (failed > 0) System.exit(1);
    }

    private static void runExamples(String page, Path out) throws Exception {
        Path file = out.resolve("ReadmeExamples.java");
        Files.writeString(file, program(page));
        int rc = ToolProvider.getSystemJavaCompiler().run(null, null, null, "-cp", System.getProperty("java.class.path"), "-d", out.toString(), file.toString());
        due("its examples compile", rc, 0);
        if (rc != 0) return;
        try (URLClassLoader loader = new URLClassLoader(new URL[] {out.toUri().toURL()})) {
            loader.loadClass("ReadmeExamples").getMethod("go").invoke(null);
        }
    }

    private static String program(String page) {
        StringBuilder b = new StringBuilder("public final class ReadmeExamples {\n    public static void go() {\n");
        Matcher blocks = BLOCK.matcher(page);
        while (blocks.find()) {
            for (String line : blocks.group(1).split("\n")) b.append(line(line)).append('\n');
        }
        return b.append("    }\n}\n").toString();
    }

    private static String line(String line) {
        Matcher m = ANSWERED.matcher(line);
        if (!m.find()) return line;
        String quoted = m.group(1).replace("\\", "\\\\").replace("\"", "\\\"");
        return "ReadmeTest.due(\"" + quoted + "\", " + m.group(1) + ", " + m.group(2) + "L);";
    }

    private static void remove(Path directory) throws Exception {
        List<Path> all = new ArrayList<>();
        try (Stream<Path> paths = Files.walk(directory)) {
            paths.sorted(Comparator.reverseOrder()).forEach(all::add);
        }
        for (Path path : all) Files.delete(path);
    }
}
