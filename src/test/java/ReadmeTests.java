import java.io.IOException;
import java.lang.reflect.Method;
import java.lang.reflect.Modifier;
import java.net.URL;
import java.net.URLClassLoader;
import java.nio.file.Files;
import java.nio.file.Path;
import java.util.ArrayList;
import java.util.List;
import java.util.function.Supplier;
import java.util.regex.Matcher;
import java.util.regex.Pattern;
import java.util.stream.Stream;
import javax.tools.JavaCompiler;
import javax.tools.ToolProvider;

/**
 * The calls that README.md shows, with the answers that it gives for them. Its Java is compiled as it stands there, so
 * that what a reader copies works; a line of it that could not be checked is a fault.
 */
public final class ReadmeTests {
    private static final Check CHECK = new Check();
    private static final Pattern BLOCK = Pattern.compile("(?ms)^```java\n(.*?)^```$");
    private static final Pattern ANSWERED = Pattern.compile("(.+\\)); // (-?\\d+|throws \\w+)(: .+)?");
    private static final Pattern WITHOUT_ANSWER = Pattern.compile("//.*|FieldPerms \\w+ = new FieldPerms\\(\\);");

    private final StringBuilder helpers = new StringBuilder();
    private final StringBuilder statements = new StringBuilder();
    private final List<String> calls = new ArrayList<>();
    private final List<String> answers = new ArrayList<>();

    public static void main(String[] args) throws IOException, ReflectiveOperationException {
        String page = Files.readString(Path.of("README.md"));
        ReadmeTests tests = new ReadmeTests();
        tests.read(page);
        tests.answersAreDue();
        tests.everyCallIsShown();
        everyTestIsNamed(page);
        CHECK.end("ReadmeTests");
    }

    private void read(String page) {
        CHECK.begin("README.md, its Java");
        Matcher block = BLOCK.matcher(page);
        while (block.find()) {
            if (block.group(1).startsWith("static ")) {
                helpers.append(block.group(1));
            } else {
                block.group(1).lines().forEach(this::readLine);
            }
        }
        CHECK.holds("there are calls", !calls.isEmpty());
    }

    private void readLine(String line) {
        Matcher answered = ANSWERED.matcher(line);
        if (answered.matches()) {
            calls.add(answered.group(1));
            answers.add(answered.group(2));
            statements.append("try { got.append(").append(answered.group(1)).append(");")
                    .append(" } catch (RuntimeException e) {")
                    .append(" got.append(\"throws \").append(e.getClass().getSimpleName()); }")
                    .append(" got.append('\\n');\n");
        } else {
            CHECK.holds("'" + line + "' is a call with an answer", WITHOUT_ANSWER.matcher(line).matches());
            statements.append(line).append('\n');
        }
    }

    private void answersAreDue() throws IOException, ReflectiveOperationException {
        CHECK.begin("README.md, its answers");
        String[] got = run().split("\n");
        CHECK.same("answers", answers.size(), got.length);
        for (int i = 0; i < Math.min(got.length, answers.size()); i++) {
            CHECK.same(calls.get(i), answers.get(i), got[i]);
        }
    }

    private String run() throws IOException, ReflectiveOperationException {
        Path place = Files.createTempDirectory("readme");
        Path source = place.resolve("ReadmeRun.java");
        Path made = place.resolve("ReadmeRun.class");
        Files.writeString(source, "public final class ReadmeRun implements java.util.function.Supplier<String> {\n"
                + helpers + "public String get() {\nStringBuilder got = new StringBuilder();\n" + statements
                + "return got.toString();\n}\n}\n");
        JavaCompiler compiler = ToolProvider.getSystemJavaCompiler();
        int code = compiler.run(null, null, null, "-Xlint:all", "-cp", System.getProperty("java.class.path"), "-d",
                place.toString(), source.toString());
        CHECK.same("javac", 0, code);
        String got = code == 0 ? answersOf(place) : "";
        Files.deleteIfExists(made);
        Files.delete(source);
        Files.delete(place);
        return got;
    }

    private static String answersOf(Path place) throws IOException, ReflectiveOperationException {
        URL[] where = {place.toUri().toURL()};
        try (URLClassLoader loader = new URLClassLoader(where, ReadmeTests.class.getClassLoader())) {
            Object run = loader.loadClass("ReadmeRun").getConstructor().newInstance();
            return ((Supplier<?>) run).get().toString();
        }
    }

    private void everyCallIsShown() {
        CHECK.begin("README.md, how to use the class");
        // text() and feed() are shown by hand, too, not by the helper alone
        String shown = String.join("\n", calls);
        for (Method m : FieldPerms.class.getDeclaredMethods()) {
            if (Modifier.isPublic(m.getModifiers())) {
                CHECK.holds("it shows " + m.getName() + "()", shown.contains("." + m.getName() + "("));
            }
        }
    }

    private static void everyTestIsNamed(String page) throws IOException {
        CHECK.begin("README.md, how to run its tests");
        CHECK.holds("it names .ci/run", page.contains("\n    .ci/run\n"));
        try (Stream<Path> tests = Files.list(Path.of("src/test/java"))) {
            tests.map(p -> p.getFileName().toString()).filter(n -> n.endsWith("Tests.java")).forEach(n -> {
                String name = n.substring(0, n.length() - ".java".length());
                CHECK.holds("it names " + name, page.contains("`" + name + "`"));
            });
        }
    }
}
