import java.io.IOException;
import java.lang.reflect.Method;
import java.net.URL;
import java.net.URLClassLoader;
import java.nio.file.Files;
import java.nio.file.Path;
import java.util.ArrayList;
import java.util.Arrays;
import java.util.List;
import java.util.Set;
import java.util.TreeSet;
import java.util.regex.Matcher;
import java.util.regex.Pattern;
import java.util.stream.Stream;
import javax.tools.JavaCompiler;
import javax.tools.ToolProvider;

/** What README.md says is so: its example compiles and answers as told; its calls and tests are those there are. */
public final class ReadmeTest {
    private static final Checker CHECK = new Checker();
    private static final Pattern EXAMPLE = Pattern.compile("```java\n(.*?)```", Pattern.DOTALL);
    private static final Pattern ANSWERED = Pattern.compile("(int \\w+ = )?(hall\\.\\w+\\(.*\\)); +// (-?\\d+): .*");
    private static final Pattern CALL = Pattern.compile("(?m)^\\| `(\\w+)\\(([^)]*)\\)` \\|");
    private static final Pattern TEST = Pattern.compile("`(\\w+Test)`");
    private static final Pattern SHELL = Pattern.compile("```sh\n(.*?)```", Pattern.DOTALL);

    public static void main(String[] args) throws IOException, ReflectiveOperationException {
        String page = Files.readString(Path.of("README.md"));
        calls(page);
        tests(page);
        example(page);
        CHECK.end();
    }

    private static void calls(String page) {
        CHECK.about("README.md's calls");
        List<String> told = new ArrayList<>();
        Matcher m = CALL.matcher(page);
        while (m.find()) {
            told.add(m.group(1) + " of " + (m.group(2).isEmpty() ? 0 : m.group(2).split(",").length));
        }
        Set<String> own = new TreeSet<>();
        for (Method method : CarpetsLaw.class.getMethods()) {
            if (method.getDeclaringClass() == CarpetsLaw.class) {
                own.add(method.getName() + " of " + method.getParameterCount());
            }
        }
        CHECK.due("each call once", told.size(), own.size());
        CHECK.holds("told are " + told + ", there are " + own, own.equals(new TreeSet<>(told)));
    }

    private static void tests(String page) throws IOException {
        CHECK.about("README.md's tests");
        Set<String> told = new TreeSet<>();
        Matcher m = TEST.matcher(page);
        while (m.find()) {
            told.add(m.group(1));
        }
        Set<String> own = new TreeSet<>();
        try (Stream<Path> files = Files.list(Path.of("src/test/java"))) {
            files.map(file -> file.getFileName().toString()).filter(name -> name.endsWith("Test.java"))
                .forEach(name -> own.add(name.replace(".java", "")));
        }
        CHECK.holds("told are " + told + ", there are " + own, own.equals(told));
        CHECK.holds(".ci/run can be run", Files.isExecutable(Path.of(".ci/run")));
        m = SHELL.matcher(page);
        CHECK.holds("the commands for one test", m.find());
        for (String word : m.group(1).split("\\s+")) {
            if (word.endsWith("Test")) {
                CHECK.holds(word + " is a test", own.contains(word));
            }
        }
    }

    private static void example(String page) throws IOException, ReflectiveOperationException {
        CHECK.about("README.md's example");
        Matcher m = EXAMPLE.matcher(page);
        CHECK.holds("there is one", m.find());
        List<String> told = new ArrayList<>();
        StringBuilder body = new StringBuilder();
        for (String line : m.group(1).split("\n")) {
            Matcher answered = ANSWERED.matcher(line);
            if (answered.matches()) {
                String variable = answered.group(1) == null ? "" : answered.group(1);
                body.append(variable).append("Readme.keep(").append(answered.group(2)).append(");\n");
                told.add(answered.group(3));
            } else {
                CHECK.holds("a line that tells an answer tells it as a number: " + line, !line.contains("//"));
                body.append(line).append('\n');
            }
        }
        List<String> got = run(body.toString());
        CHECK.due("answers told", told.size(), got.size());
        for (int i = 0; i < Math.min(told.size(), got.size()); i++) {
            CHECK.due("answer " + i, Long.parseLong(got.get(i)), Long.parseLong(told.get(i)));
        }
    }

    /** Compiles the example as it stands there, but that its answers are kept, and runs it. */
    private static List<String> run(String body) throws IOException, ReflectiveOperationException {
        Path folder = Files.createTempDirectory("readme");
        Path source = folder.resolve("Readme.java");
        Files.writeString(source, "public class Readme {\nstatic final StringBuilder KEPT = new StringBuilder();\n"
            + "static int keep(int n) { KEPT.append(n).append(' '); return n; }\n"
            + "static long keep(long n) { KEPT.append(n).append(' '); return n; }\n"
            + "public static String run() {\n" + body + "return KEPT.toString();\n}\n}\n");
        JavaCompiler compiler = ToolProvider.getSystemJavaCompiler();
        String path = System.getProperty("java.class.path");
        int failed = compiler.run(null, null, null, "-cp", path, "-d", folder.toString(), source.toString());
        CHECK.due("it compiles", failed, 0);
        List<String> kept = new ArrayList<>();
        if (failed == 0) {
            try (URLClassLoader loader = new URLClassLoader(new URL[] {folder.toUri().toURL()})) {
                String answers = (String) loader.loadClass("Readme").getMethod("run").invoke(null);
                kept.addAll(Arrays.asList(answers.trim().split(" ")));
            }
        }
        Files.deleteIfExists(folder.resolve("Readme.class"));
        Files.deleteIfExists(source);
        Files.deleteIfExists(folder);
        return kept;
    }
}
