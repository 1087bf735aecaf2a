import java.io.ByteArrayOutputStream;
import java.io.File;
import java.io.IOException;
import java.io.PrintStream;
import java.net.URL;
import java.net.URLClassLoader;
import java.nio.file.Files;
import java.nio.file.Path;
import java.util.ArrayList;
import java.util.List;
import java.util.regex.Matcher;
import java.util.regex.Pattern;
import java.util.stream.Stream;
import javax.tools.ToolProvider;

/** The example of README.md is compiled and run; it has to answer what stands behind each call. */
public final class ReadmeTest {
    private static final Pattern EXAMPLE = Pattern.compile("(?s)```java\n(public final class Journey .*?)```");
    private static final Pattern PRINTED = Pattern.compile("System\\.out\\.println\\((.*)\\);(?: +// (-?\\w+).*)?");

    private static String exampleOf(String readme) {
        Matcher m = EXAMPLE.matcher(readme);
        return m.find() ? m.group(1) : "";
    }

    private static List<String> answersOf(String program) throws Exception {
        Path directory = Files.createTempDirectory("readme");
        try {
            Path file = directory.resolve("Journey.java");
            Files.writeString(file, program);
            int code = ToolProvider.getSystemJavaCompiler().run(null, null, null, "-proc:none", "-cp",
                    System.getProperty("java.class.path"), "-d", directory.toString(), file.toString());
            Check.due("the example compiles", code, 0);
            return code == 0 ? linesOf(directory) : new ArrayList<>();
        } finally {
            deleteAll(directory);
        }
    }

    private static List<String> linesOf(Path directory) throws Exception {
        PrintStream before = System.out;
        ByteArrayOutputStream bytes = new ByteArrayOutputStream();
        try (URLClassLoader loader = new URLClassLoader(new URL[] {directory.toUri().toURL()})) {
            System.setOut(new PrintStream(bytes, true));
            loader.loadClass("Journey").getMethod("main", String[].class).invoke(null, (Object) new String[0]);
        } finally {
            System.setOut(before);
        }
        return bytes.toString().lines().toList();
    }

    private static void deleteAll(Path directory) throws IOException {
        File[] files = directory.toFile().listFiles();
        for (File file : files == null ? new File[0] : files) {
            Files.delete(file.toPath());
        }
        Files.delete(directory);
    }

    private static void theExampleAnswersWhatItSays(String readme) throws Exception {
        String program = exampleOf(readme);
        List<String> answers = answersOf(program);
        int at = 0;
        Matcher m = PRINTED.matcher(program);
        while (m.find()) {
            String answer = at < answers.size() ? answers.get(at) : "nothing";
            Check.due(m.group(1) + " answered " + answer + ", README.md says " + m.group(2),
                    answer.equals(m.group(2)), true);
            at++;
        }
        Check.due("some calls stand in the example: " + at, at > 30, true);
        Check.due("answers", answers.size(), at);
    }

    private static void everyTestStandsInTheTable(String readme) throws IOException {
        try (Stream<Path> files = Files.list(Path.of("tests"))) {
            for (Path file : files.filter(f -> f.toString().endsWith(".java")).toList()) {
                String name = file.getFileName().toString().replace(".java", "");
                Check.due(name + " stands in README.md", readme.contains("| `" + name + "` |"), true);
            }
        }
    }

    private static void noCallIsUnnamed(String readme) {
        for (java.lang.reflect.Method method : FuneralPost.class.getMethods()) {
            if (method.getDeclaringClass() == FuneralPost.class) {
                boolean named = Pattern.compile("`" + method.getName() + "(\\(|`)").matcher(readme).find();
                Check.due(method.getName() + " stands in README.md", named, true);
            }
        }
    }

    public static void main(String[] args) throws Exception {
        String readme = Files.readString(Path.of("README.md"));
        theExampleAnswersWhatItSays(readme);
        everyTestStandsInTheTable(readme);
        noCallIsUnnamed(readme);
        Check.finish();
    }
}
