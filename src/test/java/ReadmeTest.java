import java.io.IOException;
import java.net.URL;
import java.net.URLClassLoader;
import java.nio.file.Files;
import java.nio.file.Path;
import java.util.ArrayList;
import java.util.List;
import java.util.regex.Matcher;
import java.util.regex.Pattern;
import java.util.stream.Stream;
import javax.tools.ToolProvider;

/** README.md: its calls are compiled and made as they stand there, and each is to answer what stands behind it. */
final class ReadmeTest {
    private static final Pattern PIECE_OF_CODE = Pattern.compile("(?s)```java\n(.*?)```");
    private static final Pattern TOLD_CALL =
            Pattern.compile("(?:int (\\w+) = )?(club\\..*\\)); +// (-?\\d+|true|false|throws \\w+)(?:: .*)?");
    private static final Pattern NAMED_TEST = Pattern.compile("(?m)^\\| `(\\w+)` \\|");

    private static final Check check = new Check();

    public static void main(String[] args) throws IOException, ReflectiveOperationException {
        check.about("README.md");
        String readme = Files.readString(Path.of("README.md"));
        callsAreRight(readme);
        testsAreNamed(readme);
        check.end("ReadmeTest");
    }

    private static void callsAreRight(String readme) throws IOException, ReflectiveOperationException {
        StringBuilder code = new StringBuilder();
        List<String> calls = new ArrayList<>();
        List<String> told = new ArrayList<>();
        for (Matcher piece = PIECE_OF_CODE.matcher(readme); piece.find();) {
            for (String line : piece.group(1).split("\n")) {
                Matcher call = TOLD_CALL.matcher(line);
                if (call.matches()) {
                    code.append(asked(call)).append('\n');
                    calls.add(call.group(2));
                    told.add(call.group(3));
                } else {
                    check.isFalse("no answer is told: " + line, line.contains("club."));
                    code.append(line).append('\n');
                }
            }
        }
        check.isTrue("there are calls", calls.size() > 20);
        List<String> got = answers(code.toString());
        check.due("calls that were made", got.size(), calls.size());
        for (int call = 0; call < Math.min(got.size(), calls.size()); call++) {
            String what = calls.get(call) + " answered " + got.get(call) + ", README.md tells " + told.get(call);
            check.isTrue(what, got.get(call).equals(told.get(call)));
        }
    }

    /** The call as it stands there, whose answer is kept. */
    private static String asked(Matcher call) {
        if (call.group(1) != null) {
            return call.group() + "\n got.add(String.valueOf(" + call.group(1) + "));";
        }
        String kept = "got.add(String.valueOf(" + call.group(2) + "));";
        return call.group(3).startsWith("throws")
                ? "try { " + kept + " } catch (RuntimeException thrown) {"
                        + " got.add(\"throws \" + thrown.getClass().getSimpleName()); }"
                : kept;
    }

    private static List<String> answers(String code) throws IOException, ReflectiveOperationException {
        Path directory = Files.createTempDirectory("readme");
        Path source = directory.resolve("ReadmeCalls.java");
        directory.toFile().deleteOnExit();
        source.toFile().deleteOnExit();
        directory.resolve("ReadmeCalls.class").toFile().deleteOnExit();
        Files.writeString(source, "public final class ReadmeCalls {\npublic static void make(java.util.List<String> got) {\n"
                + code + "}\n}\n");
        int exit = ToolProvider.getSystemJavaCompiler().run(null, null, null,
                "-cp", System.getProperty("java.class.path"), "-d", directory.toString(), source.toString());
        check.due("exit code of javac", exit, 0);
        List<String> got = new ArrayList<>();
        if (exit == 0) {
            try (URLClassLoader loader = new URLClassLoader(new URL[] {directory.toUri().toURL()})) {
                loader.loadClass("ReadmeCalls").getMethod("make", List.class).invoke(null, got);
            }
        }
        return got;
    }

    private static void testsAreNamed(String readme) throws IOException {
        List<String> named = new ArrayList<>();
        for (Matcher test = NAMED_TEST.matcher(readme); test.find();) {
            named.add(test.group(1) + ".java");
        }
        try (Stream<Path> files = Files.list(Path.of("src/test/java"))) {
            List<String> there = files.map(file -> file.getFileName().toString())
                    .filter(name -> name.endsWith("Test.java")).toList();
            check.isTrue("the tests that are there are named: " + there, named.containsAll(there));
            check.isTrue("the tests that are named are there: " + named, there.containsAll(named));
        }
    }
}
