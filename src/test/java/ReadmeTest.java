import java.io.IOException;
import java.net.URL;
import java.net.URLClassLoader;
import java.nio.file.Files;
import java.nio.file.Path;
import java.util.List;
import java.util.regex.MatchResult;
import java.util.regex.Matcher;
import java.util.regex.Pattern;
import javax.tools.JavaCompiler;
import javax.tools.ToolProvider;

/** The example of README.md is compiled and run as it stands: each answer that it tells is the program's own. */
public final class ReadmeTest {
    private static final Pattern EXAMPLE = Pattern.compile("(?s)```java\n(.*?)```");
    /** A call of x on a line of its own, with its answer behind it. */
    private static final Pattern TOLD = Pattern.compile("(?m)^x\\.(.*\\));\\s*// (-?\\d+)(?::.*)?$");
    private static final Pattern CALL = Pattern.compile("(?m)^x\\.");

    private ReadmeTest() {
    }

    public static void main(String[] args) throws IOException, ReflectiveOperationException {
        Matcher example = EXAMPLE.matcher(Files.readString(Path.of("README.md")));
        boolean found = example.find();
        Check.holds("README.md has an example", found);
        if (found) {
            compare(example.group(1));
        }
        Check.end();
    }

    private static void compare(String code) throws IOException, ReflectiveOperationException {
        List<MatchResult> told = TOLD.matcher(code).results().toList();
        Check.holds("it tells some answer", !told.isEmpty());
        Check.due("calls that tell their answer", told.size(), CALL.matcher(code).results().count());
        String body = TOLD.matcher(code).replaceAll("answers.add((long) x.$1);");
        List<?> answers = answersOf("public final class Example { public static java.util.List<Long> run() {\n"
            + "java.util.List<Long> answers = new java.util.ArrayList<>();\n" + body + "\nreturn answers; } }\n");
        Check.due("answers of the example", answers.size(), told.size());
        for (int i = 0; i < Math.min(answers.size(), told.size()); i++) {
            Check.due("README.md: " + told.get(i).group(1), (Long) answers.get(i), Long.parseLong(told.get(i).group(2)));
        }
    }

    private static List<?> answersOf(String source) throws IOException, ReflectiveOperationException {
        Path room = Files.createTempDirectory("readme");
        Path file = room.resolve("Example.java");
        Files.writeString(file, source);
        JavaCompiler compiler = ToolProvider.getSystemJavaCompiler();
        String path = System.getProperty("java.class.path");
        int code = compiler.run(null, null, null, "-cp", path, "-d", room.toString(), file.toString());
        Check.due("the example compiles", code, 0);
        List<?> answers = code == 0 ? run(room) : List.of();
        Files.deleteIfExists(room.resolve("Example.class"));
        Files.deleteIfExists(file);
        Files.deleteIfExists(room);
        return answers;
    }

    private static List<?> run(Path room) throws IOException, ReflectiveOperationException {
        URL[] where = {room.toUri().toURL()};
        try (URLClassLoader loader = new URLClassLoader(where, ReadmeTest.class.getClassLoader())) {
            return (List<?>) loader.loadClass("Example").getMethod("run").invoke(null);
        }
    }
}
