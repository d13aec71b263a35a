import java.io.IOException;
import java.lang.reflect.Method;
import java.lang.reflect.Modifier;
import java.net.URL;
import java.net.URLClassLoader;
import java.nio.file.Files;
import java.nio.file.Path;
import java.util.List;
import java.util.regex.Matcher;
import java.util.regex.Pattern;
import java.util.stream.Collectors;
import java.util.stream.Stream;
import javax.tools.JavaCompiler;
import javax.tools.ToolProvider;

/** README.md: its example is compiled and run, each answer in it is looked at; it names each call and each test. */
public final class ReadmeTests {
    private static final Pattern BLOCK = Pattern.compile("```java\n(.*?)```", Pattern.DOTALL);
    private static final Pattern ANSWERED = Pattern.compile("(?m)^(x\\.\\w+\\([^;]*\\)); +// (-?\\d+).*$");
    private static int wrong = 0;
    private static int looks = 0;

    private static void check(boolean holds, String what) {
        looks++;
        if (!holds) {
            wrong++;
            System.out.println("not so: " + what);
        }
    }

    /** Called by the example once it is a program. */
    public static void due(String call, int got, int want) {
        check(got == want, "README.md: " + call + " answers " + want + " (it is " + got + ")");
    }

    /** The example, each answer told behind a call made a look at that answer. */
    private static String program(String readme) {
        Matcher block = BLOCK.matcher(readme);
        check(block.find(), "README.md has an example");
        Matcher answered = ANSWERED.matcher(block.group(1));
        check(answered.results().count() > 0, "README.md's example tells answers");
        return "public final class Example {\n    public static void run() {\n"
                + answered.replaceAll("ReadmeTests.due(\"$1\", $1, $2);") + "    }\n}\n";
    }

    private static void example(String readme) throws IOException, ReflectiveOperationException {
        Path folder = Files.createTempDirectory("readme");
        try {
            Path source = Files.writeString(folder.resolve("Example.java"), program(readme));
            JavaCompiler javac = ToolProvider.getSystemJavaCompiler();
            int failed = javac.run(null, System.out, System.out, "-d", folder.toString(),
                    "-cp", System.getProperty("java.class.path"), source.toString());
            check(failed == 0, "README.md's example compiles");
            if (failed == 0) {
                try (URLClassLoader loader = new URLClassLoader(new URL[] {folder.toUri().toURL()})) {
                    loader.loadClass("Example").getMethod("run").invoke(null);
                }
            }
        } finally {
            for (Path file : listed(folder)) {
                Files.delete(file);
            }
            Files.delete(folder);
        }
    }

    private static List<Path> listed(Path folder) throws IOException {
        try (Stream<Path> files = Files.list(folder)) {
            return files.sorted().collect(Collectors.toList());
        }
    }

    private static void names(String readme) throws IOException {
        for (Method m : MirrorShares.class.getDeclaredMethods()) {
            if (Modifier.isPublic(m.getModifiers())) {
                Matcher row = Pattern.compile("\n\\| `" + m.getName() + "\\(([^)]*)\\)` \\|").matcher(readme);
                boolean told = row.find();
                check(told, "README.md tells " + m.getName());
                int many = !told || row.group(1).isEmpty() ? 0 : row.group(1).split(", ").length;
                check(many == m.getParameterCount(), "README.md tells what " + m.getName() + " takes");
            }
        }
        for (Path test : listed(Path.of("src/test/java"))) {
            check(readme.contains(test.getFileName().toString()), "README.md names " + test.getFileName());
        }
    }

    public static void main(String[] args) throws IOException, ReflectiveOperationException {
        String readme = Files.readString(Path.of("README.md"));
        example(readme);
        names(readme);
        System.out.println(looks + " looks at README.md, " + wrong + " not so");
        System.exit(wrong == 0 ? 0 : 1);
    }
}
