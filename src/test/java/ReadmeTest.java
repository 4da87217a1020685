import java.io.IOException;
import java.lang.reflect.Method;
import java.lang.reflect.Modifier;
import java.net.URL;
import java.net.URLClassLoader;
import java.nio.file.Files;
import java.nio.file.Path;
import java.util.ArrayList;
import java.util.List;
import java.util.regex.Matcher;
import java.util.regex.Pattern;
import java.util.stream.Stream;
import javax.tools.JavaCompiler;
import javax.tools.ToolProvider;

/** README.md says what holds: its lines of Java are run, and it names every call and every test. */
public final class ReadmeTest {
    private static final Pattern BLOCK = Pattern.compile("```java\n(.*?)```", Pattern.DOTALL);
    private static final Pattern KEPT = Pattern.compile("(int (\\w+) = works\\..*);\\s+// (-?\\d+)\\b.*");
    private static final Pattern ASKED = Pattern.compile("(works\\..*);\\s+// (-?\\d+)\\b.*");
    private static final String MADE = "WaterTwice works = new WaterTwice();";

    private static int wrong = 0;

    public static void main(String[] args) throws Exception {
        Path root = Path.of(System.getProperty("watertwice.root", "."));
        String readme = Files.readString(root.resolve("README.md"));
        List<String> lines = linesOfJava(readme);
        wrong += run(sourceOf(lines));
        for (Method m : WaterTwice.class.getDeclaredMethods()) {
            if (Modifier.isPublic(m.getModifiers())) {
                check(lines.stream().anyMatch(line -> line.contains("works." + m.getName() + "(")), m.getName() + " is shown");
            }
        }
        for (String test : testsOf(root)) {
            check(readme.contains("`src/test/java/" + test + "`"), test + " is named");
        }
        System.out.println(wrong == 0 ? "README.md says what holds" : wrong + " faults of README.md");
        if (wrong != 0) {
            System.exit(1);
        }
    }

    private static void check(boolean holds, String what) {
        if (!holds) {
            wrong++;
            System.out.println("README.md, not so: " + what);
        }
    }

    private static List<String> linesOfJava(String readme) {
        List<String> lines = new ArrayList<>();
        Matcher block = BLOCK.matcher(readme);
        while (block.find()) {
            lines.addAll(block.group(1).lines().toList());
        }
        check(!lines.isEmpty(), "it has lines of Java");
        return lines;
    }

    private static List<String> testsOf(Path root) throws IOException {
        try (Stream<Path> files = Files.list(root.resolve("src/test/java"))) {
            return files.map(file -> file.getFileName().toString()).toList();
        }
    }

    /** A class that makes each call of the lines and answers how many told something else than stands there. */
    private static String sourceOf(List<String> lines) {
        StringBuilder source = new StringBuilder("public final class ReadmeLines {\n"
            + "  private static int due(String call, long got, long want) {\n"
            + "    if (got == want) { return 0; }\n"
            + "    System.out.println(\"README.md: \" + call + \" answered \" + got + \", it says \" + want);\n"
            + "    return 1;\n"
            + "  }\n"
            + "  public static int wrong() {\n"
            + "    int wrong = 0;\n");
        for (String line : lines) {
            Matcher kept = KEPT.matcher(line);
            Matcher asked = ASKED.matcher(line);
            if (kept.matches()) {
                source.append(kept.group(1)).append(";\n").append(due(kept.group(1), kept.group(2), kept.group(3)));
            } else if (asked.matches()) {
                source.append(due(asked.group(1), asked.group(1), asked.group(2)));
            } else {
                check(line.equals(MADE), "each line tells its answer: " + line);
                source.append(line).append('\n');
            }
        }
        return source.append("    return wrong;\n  }\n}\n").toString();
    }

    private static String due(String call, String got, String want) {
        return "wrong += due(\"" + call + "\", " + got + ", " + want + "L);\n";
    }

    private static int run(String source) throws Exception {
        Path folder = Files.createTempDirectory("readme");
        Path file = folder.resolve("ReadmeLines.java");
        Path compiled = folder.resolve("ReadmeLines.class");
        try {
            Files.writeString(file, source);
            JavaCompiler javac = ToolProvider.getSystemJavaCompiler();
            String classes = System.getProperty("java.class.path");
            if (javac.run(null, null, null, "-cp", classes, "-d", folder.toString(), file.toString()) != 0) {
                System.out.println("README.md: its lines of Java do not compile");
                return 1;
            }
            try (URLClassLoader loader = new URLClassLoader(new URL[] {folder.toUri().toURL()})) {
                return (int) loader.loadClass("ReadmeLines").getMethod("wrong").invoke(null);
            }
        } finally {
            Files.deleteIfExists(file);
            Files.deleteIfExists(compiled);
            Files.deleteIfExists(folder);
        }
    }
}
