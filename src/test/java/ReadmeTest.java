import java.lang.reflect.InvocationTargetException;
import java.net.URL;
import java.net.URLClassLoader;
import java.nio.file.Files;
import java.nio.file.Path;
import java.util.ArrayList;
import java.util.List;
import java.util.Set;
import java.util.TreeSet;
import java.util.regex.Matcher;
import java.util.regex.Pattern;
import java.util.stream.Collectors;
import java.util.stream.Stream;
import javax.tools.ToolProvider;

/** What README.md says is so: its examples answer what stands behind them, its tests are those that there are. */
public final class ReadmeTest {
    private static int made = 0;
    private static int wrong = 0;

    private ReadmeTest() {
    }

    public static void main(String[] args) throws Exception {
        String readme = Files.readString(Path.of("README.md"));
        runExamples(readme);
        nameTests(readme);
        System.out.println(made + " checks, " + wrong + " wrong");
        if (wrong != 0) {
            System.exit(1);
        }
    }

    /** Called by the examples: what a line answered, and what README.md says of it. */
    public static void due(String line, Object got, String want) {
        made++;
        if (!String.valueOf(got).equals(want)) {
            wrong++;
            System.out.println(line + " answered " + got + ", README.md says " + want);
        }
    }

    /** All examples are one program: a static method stands in its class, all else in its main. */
    private static void runExamples(String readme) throws Exception {
        StringBuilder methods = new StringBuilder();
        StringBuilder body = new StringBuilder();
        int answers = 0;
        Matcher block = Pattern.compile("```java\n(.*?)```", Pattern.DOTALL).matcher(readme);
        while (block.find()) {
            if (block.group(1).startsWith("static ")) {
                methods.append(block.group(1));
                continue;
            }
            for (String line : block.group(1).split("\n")) {
                Matcher call = Pattern.compile("(x\\.\\w+\\(.*\\)); +// (-?\\w+): .*").matcher(line);
                boolean tells = call.matches();
                answers += tells ? 1 : 0;
                body.append(tells ? "ReadmeTest.due(\"" + call.group(1) + "\", " + call.group(1) + ", \"" + call.group(2) + "\");" : line);
                body.append('\n');
            }
        }
        if (answers < 20) {
            wrong++;
            System.out.println("README.md has only " + answers + " lines with an answer");
        }
        run("public final class ReadmeExample {\n" + methods + "public static void run() {\n" + body + "}\n}\n");
    }

    private static void run(String source) throws Exception {
        Path folder = Files.createTempDirectory("readme");
        Path file = folder.resolve("ReadmeExample.java");
        Files.writeString(file, source);
        int ended = ToolProvider.getSystemJavaCompiler().run(null, System.out, System.out,
            "-cp", System.getProperty("java.class.path"), "-d", folder.toString(), file.toString());
        if (ended != 0) {
            wrong++;
            System.out.println("the examples of README.md do not compile");
            return;
        }
        try (URLClassLoader loader = new URLClassLoader(new URL[] {folder.toUri().toURL()}, ReadmeTest.class.getClassLoader())) {
            loader.loadClass("ReadmeExample").getMethod("run").invoke(null);
        } catch (InvocationTargetException e) {
            wrong++;
            System.out.println("the examples of README.md throw " + e.getCause());
        }
        try (Stream<Path> all = Files.list(folder)) {
            for (Path one : all.collect(Collectors.toList())) {
                Files.delete(one);
            }
        }
        Files.delete(folder);
    }

    private static void nameTests(String readme) throws Exception {
        Set<String> named = new TreeSet<>();
        Matcher name = Pattern.compile("`(\\w+Test|Oracle|Check)`").matcher(readme);
        while (name.find()) {
            named.add(name.group(1));
        }
        List<String> there = new ArrayList<>();
        try (Stream<Path> all = Files.list(Path.of("src/test/java"))) {
            all.forEach(file -> there.add(file.getFileName().toString().replace(".java", "")));
        }
        due("the tests that README.md names", new TreeSet<>(there), named.toString());
        due("Files.isExecutable(.ci/run)", Files.isExecutable(Path.of(".ci/run")), "true");
    }
}
