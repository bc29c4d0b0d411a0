import java.io.IOException;
import java.lang.reflect.Method;
import java.lang.reflect.Modifier;
import java.net.URL;
import java.net.URLClassLoader;
import java.nio.charset.StandardCharsets;
import java.nio.file.Files;
import java.nio.file.Path;
import java.util.List;
import java.util.regex.Matcher;
import java.util.regex.Pattern;
import java.util.stream.Collectors;
import java.util.stream.Stream;
import javax.tools.ToolProvider;

/** README.md's examples answer as it says, and its list of tests is whole. */
public final class ReadmeTest {
    private static final Pattern EXAMPLE = Pattern.compile("(?s)```java\n(.*?)```");
    private static final Pattern ANSWER = Pattern.compile("(?m)^(.*\\));( *// -> (-?[0-9]+))$");
    private static final Due due = new Due();

    public static void main(String[] args) throws Exception {
        Path root = Path.of(args.length > 0 ? args[0] : ".");
        String readme = Files.readString(root.resolve("README.md"), StandardCharsets.UTF_8);
        String tests = readme.substring(readme.indexOf("## Tests"));
        for (String test : tests(root)) {
            due.holds("README.md tells of " + test, tests.contains("`" + test + "`"));
        }
        Matcher told = Pattern.compile("`([A-Za-z]+Test)`").matcher(tests);
        while (told.find()) {
            due.holds("there is " + told.group(1), tests(root).contains(told.group(1)));
        }
        for (String call : calls()) {
            due.holds("an example of " + call, readme.contains("x." + call + "("));
        }
        runs(written(readme));
        due.end("ReadmeTest");
    }

    /** What the class that is made of the examples calls. */
    public static void is(String call, long got, long want) {
        due.is(call, got, want);
    }

    private static List<String> tests(Path root) throws IOException {
        try (Stream<Path> files = Files.list(root.resolve("src/test/java"))) {
            return files.map(file -> file.getFileName().toString()).filter(name -> name.endsWith("Test.java"))
                .map(name -> name.replace(".java", "")).sorted().collect(Collectors.toList());
        }
    }

    private static List<String> calls() {
        return Stream.of(ByLot.class.getDeclaredMethods())
            .filter(m -> Modifier.isPublic(m.getModifiers()))
            .map(Method::getName).sorted().collect(Collectors.toList());
    }

    /** Methods stand beside main, all else in it, in the order in which it is read. */
    private static String written(String readme) {
        StringBuilder methods = new StringBuilder();
        StringBuilder main = new StringBuilder();
        Matcher example = EXAMPLE.matcher(readme);
        while (example.find()) {
            (example.group(1).startsWith("static") ? methods : main).append(asked(example.group(1)));
        }
        return "public final class Examples {\n" + methods + "public static void main(String[] args) {\n" + main + "}\n}\n";
    }

    private static String asked(String example) {
        return ANSWER.matcher(example).replaceAll(m -> Matcher.quoteReplacement(
            "ReadmeTest.is(\"" + m.group(1).replace("\"", "\\\"") + "\", " + m.group(1) + ", " + m.group(3) + "L);"));
    }

    private static void runs(String source) throws Exception {
        Path work = Files.createTempDirectory("readme");
        Path file = Files.writeString(work.resolve("Examples.java"), source);
        int compiled = ToolProvider.getSystemJavaCompiler().run(null, null, null,
            "-cp", System.getProperty("java.class.path"), "-d", work.toString(), file.toString());
        due.is("the examples compile", compiled, 0);
        if (compiled == 0) {
            try (URLClassLoader loader = new URLClassLoader(new URL[] {work.toUri().toURL()})) {
                loader.loadClass("Examples").getMethod("main", String[].class).invoke(null, (Object) new String[0]);
            }
            Files.delete(work.resolve("Examples.class"));
        }
        Files.delete(file);
        Files.delete(work);
    }
}
