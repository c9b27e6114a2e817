import java.io.IOException;
import java.nio.file.Files;
import java.nio.file.Path;
import java.util.ArrayList;
import java.util.Arrays;
import java.util.List;
import java.util.regex.Matcher;
import java.util.regex.Pattern;
import javax.tools.ToolProvider;

/** README.md's examples: each call that stands there with its answer behind it is compiled and asked. */
public final class ReadmeTest {
    private static final Checks DUE = new Checks();
    private static final Pattern BLOCK = Pattern.compile("(?s)```java\n(.*?)```");
    private static final Pattern CALL = Pattern.compile("(?m)^(x\\.\\w+\\(.*?\\)); *// (-?\\d+|[A-Z]+)\\b.*$");

    public static void main(String[] args) throws IOException, ReflectiveOperationException {
        Path project = Path.of(System.getProperty("project.dir", "."));
        String readme = Files.readString(project.resolve("README.md"));
        examples(readme);
        tests(readme, project);
        DUE.end();
    }

    private static void examples(String readme) throws IOException, ReflectiveOperationException {
        StringBuilder code = new StringBuilder();
        Matcher blocks = BLOCK.matcher(readme);
        while (blocks.find()) {
            code.append(blocks.group(1));
        }
        List<String> calls = new ArrayList<>();
        List<Long> due = new ArrayList<>();
        StringBuilder body = new StringBuilder();
        Matcher found = CALL.matcher(code);
        while (found.find()) {
            String answer = found.group(2);
            calls.add(found.group(1));
            due.add(Character.isUpperCase(answer.charAt(0))
                ? UnderlayOfUnspoken.class.getField(answer).getLong(null) : Long.parseLong(answer));
            found.appendReplacement(body, Matcher.quoteReplacement("got.add((long) " + found.group(1) + ");"));
        }
        found.appendTail(body);
        DUE.holds("README.md has examples", calls.size() >= 20);
        List<Long> got = run(body.toString());
        DUE.same("answers", got.size(), due.size());
        for (int i = 0; i < got.size() && i < due.size(); i++) {
            DUE.same("README.md: " + calls.get(i), got.get(i), due.get(i));
        }
    }

    private static List<Long> run(String body) throws IOException, ReflectiveOperationException {
        Path folder = Files.createTempDirectory("readme");
        Path file = folder.resolve("Example.java");
        try {
            Files.writeString(file, "public class Example {\n"
                + "public static java.util.List<Long> run() {\n"
                + "java.util.List<Long> got = new java.util.ArrayList<>();\n" + body + "return got;\n}\n}\n");
            int exit = ToolProvider.getSystemJavaCompiler().run(null, null, null,
                "-cp", System.getProperty("java.class.path"), "-d", folder.toString(), file.toString());
            DUE.same("compiling README.md's examples", exit, 0);
            return exit == 0 ? answers(folder) : List.of();
        } finally {
            Files.deleteIfExists(folder.resolve("Example.class"));
            Files.deleteIfExists(file);
            Files.deleteIfExists(folder);
        }
    }

    private static List<Long> answers(Path folder) throws IOException, ReflectiveOperationException {
        try (java.net.URLClassLoader loader = new java.net.URLClassLoader(
                new java.net.URL[] {folder.toUri().toURL()}, ReadmeTest.class.getClassLoader())) {
            List<Long> got = new ArrayList<>();
            for (Object answer : (List<?>) loader.loadClass("Example").getMethod("run").invoke(null)) {
                got.add((Long) answer);
            }
            return got;
        }
    }

    /** Each test of the project is told in README.md, and none that isn't there. */
    private static void tests(String readme, Path project) {
        String[] files = project.resolve("src/test/java").toFile().list();
        for (String file : files == null ? new String[0] : files) {
            if (file.endsWith("Test.java")) {
                String name = file.substring(0, file.length() - ".java".length());
                DUE.holds("README.md tells of " + name, readme.contains("- `" + name + "`"));
            }
        }
        Matcher named = Pattern.compile("- `(\\w+Test)`").matcher(readme);
        while (named.find()) {
            DUE.holds(named.group(1) + " is there", Arrays.asList(files).contains(named.group(1) + ".java"));
        }
    }
}
