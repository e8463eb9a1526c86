import java.io.File;
import java.lang.reflect.Method;
import java.lang.reflect.Modifier;
import java.net.URL;
import java.net.URLClassLoader;
import java.nio.charset.StandardCharsets;
import java.nio.file.Files;
import java.nio.file.Path;
import java.util.ArrayList;
import java.util.List;
import java.util.Set;
import java.util.TreeSet;
import java.util.regex.Matcher;
import java.util.regex.Pattern;
import javax.tools.JavaCompiler;
import javax.tools.ToolProvider;

/** README.md's example is compiled and run as it stands: each call must answer what README.md says behind it. */
public final class ReadmeTest {
    private static final Check CHECK = new Check();
    /** A call, and behind it what it answers, up to a colon or the line's end. */
    private static final Pattern ANSWERED = Pattern.compile("(x\\.(\\w+)\\(.*\\));\\s*// ([^\\s:]+)(:.*)?");

    private final StringBuilder methods = new StringBuilder();
    private final StringBuilder body = new StringBuilder();
    private final List<String> calls = new ArrayList<>();
    private final Set<String> shown = new TreeSet<>();

    public static void main(String[] args) throws Exception {
        List<String> readme = Files.readAllLines(Path.of("README.md"), StandardCharsets.UTF_8);
        ReadmeTest test = new ReadmeTest();
        test.readExample(readme);
        test.everyCallIsShown();
        test.runExample();
        everyTestIsNamed(readme);
        CHECK.end("ReadmeTest");
    }

    private void readExample(List<String> readme) {
        boolean isJava = false;
        boolean isMethod = false;
        for (String line : readme) {
            if (line.startsWith("```")) {
                isJava = line.equals("```java");
                isMethod = false;
            } else if (isJava) {
                isMethod |= line.startsWith("static ");
                if (isMethod) {
                    methods.append(line).append('\n');
                } else {
                    addStep(line);
                }
            }
        }
    }

    private void addStep(String line) {
        if (!line.startsWith("x.")) {
            body.append(line).append('\n');
            return;
        }
        Matcher m = ANSWERED.matcher(line);
        CHECK.due("an answer behind: " + line, m.matches() ? 1 : 0, 1);
        if (m.matches()) {
            body.append("answers.add((long) ").append(m.group(1)).append(");\n");
            body.append("answers.add((long) ").append(m.group(3)).append(");\n");
            calls.add(m.group(1));
            shown.add(m.group(2));
        }
    }

    private void everyCallIsShown() {
        for (Method m : SayingsMerged.class.getDeclaredMethods()) {
            if (Modifier.isPublic(m.getModifiers())) {
                CHECK.due("shown: " + m.getName(), shown.contains(m.getName()) ? 1 : 0, 1);
            }
        }
    }

    private void runExample() throws Exception {
        Path place = Files.createDirectories(Path.of("build", "readme"));
        Path source = place.resolve("Example.java");
        Files.writeString(source, "public class Example {\n" + methods
            + "public static java.util.List<Long> run() {\n"
            + "java.util.List<Long> answers = new java.util.ArrayList<>();\n" + body + "return answers;\n}\n}\n");
        JavaCompiler compiler = ToolProvider.getSystemJavaCompiler();
        int refused = compiler.run(null, null, null, "-encoding", "UTF-8",
            "-cp", System.getProperty("java.class.path"), "-d", place.toString(), source.toString());
        CHECK.due("the example compiles", refused, 0);
        if (refused == 0) compare(place);
    }

    private void compare(Path place) throws Exception {
        try (URLClassLoader loader = new URLClassLoader(new URL[] {place.toUri().toURL()})) {
            List<?> answers = (List<?>) loader.loadClass("Example").getMethod("run").invoke(null);
            CHECK.due("how many answers", answers.size(), 2L * calls.size());
            for (int k = 0; k < calls.size(); k++) {
                CHECK.due("README.md: " + calls.get(k), (Long) answers.get(2 * k), (Long) answers.get(2 * k + 1));
            }
        }
    }

    private static void everyTestIsNamed(List<String> readme) {
        String[] names = new File("src/test/java").list((dir, name) -> name.endsWith("Test.java"));
        for (String name : names) {
            CHECK.due("named: " + name, String.join(" ", readme).contains(name) ? 1 : 0, 1);
        }
    }
}
