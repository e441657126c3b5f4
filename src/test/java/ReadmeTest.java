import java.io.IOException;
import java.lang.reflect.Method;
import java.lang.reflect.Modifier;
import java.net.URL;
import java.net.URLClassLoader;
import java.nio.charset.StandardCharsets;
import java.nio.file.Files;
import java.nio.file.Path;
import java.util.regex.Matcher;
import java.util.regex.Pattern;
import javax.tools.ToolProvider;

/** README.md: its example answers what it says, and it names every call. */
public final class ReadmeTest {
    private static final Path BUILD = Path.of("build/readme");
    private static final Pattern EXAMPLE = Pattern.compile("```java\n(.*?)```", Pattern.DOTALL);
    private static final Pattern CALL = Pattern.compile("(?m)^(along\\.\\w+\\(.*\\)); *// (-?\\d+)[ ,:].*$");

    private static final Due due = new Due();

    private ReadmeTest() {
    }

    public static void main(String[] args) throws IOException, ReflectiveOperationException {
        String readme = Files.readString(Path.of("README.md"), StandardCharsets.UTF_8);
        due.about("README.md");
        namesEveryCall(readme);
        Matcher example = EXAMPLE.matcher(readme);
        due.holds("an example", example.find());
        answers(example.group(1));
        due.end();
    }

    private static void namesEveryCall(String readme) {
        for (Method call : LightAlong.class.getDeclaredMethods()) {
            if (!Modifier.isPublic(call.getModifiers())) continue;
            due.holds("names " + call.getName(), readme.contains("`" + call.getName() + "`"));
        }
    }

    /** Each call of the example with a number behind it becomes two numbers: what it answers, what is due. */
    private static void answers(String example) throws IOException, ReflectiveOperationException {
        Matcher calls = CALL.matcher(example);
        String body = calls.replaceAll("pairs.add(new long[] {$1, $2});");
        due.is("calls without a number", body.lines().filter(line -> line.startsWith("along.")).count(), 0);
        String code = "public final class Example {\n    public static java.util.List<long[]> pairs() {\n"
            + "java.util.List<long[]> pairs = new java.util.ArrayList<>();\n" + body + "return pairs;\n    }\n}\n";
        Path source = BUILD.resolve("Example.java");
        Files.createDirectories(BUILD);
        Files.writeString(source, code, StandardCharsets.UTF_8);
        int exit = ToolProvider.getSystemJavaCompiler().run(null, null, null, "-cp",
            System.getProperty("java.class.path"), "-d", BUILD.toString(), source.toString());
        due.is("javac of the example", exit, 0);
        if (exit != 0) return;
        try (URLClassLoader loader = new URLClassLoader(new URL[] {BUILD.toUri().toURL()})) {
            Object pairs = loader.loadClass("Example").getMethod("pairs").invoke(null);
            int i = 0;
            for (Object pair : (Iterable<?>) pairs) due.is("call " + ++i + " of the example", ((long[]) pair)[0], ((long[]) pair)[1]);
            due.holds("calls of the example: " + i, i > 0);
        }
    }
}
