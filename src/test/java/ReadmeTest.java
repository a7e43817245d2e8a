import java.io.IOException;
import java.lang.reflect.Modifier;
import java.nio.file.Files;
import java.nio.file.Path;
import java.util.regex.Matcher;
import java.util.regex.Pattern;
import javax.tools.ToolProvider;

/** The pieces of Java in README.md, run as one: each call there answers what is told behind it. */
public final class ReadmeTest {
    private static final Pattern PIECE = Pattern.compile("(?s)```java\n(.*?)```");
    private static final Pattern TOLD = Pattern.compile("(?m)^(x\\.(\\w+)\\(.*\\));\\s*// (-?\\d+):.*$");
    private static final String RUN = "ReadmeRun";

    private ReadmeTest() {
    }

    public static void main(String[] args) throws IOException, ReflectiveOperationException {
        String readme = Files.readString(Path.of("README.md"));
        namesEachCall(readme);
        StringBuilder pieces = new StringBuilder();
        Matcher piece = PIECE.matcher(readme);
        while (piece.find()) {
            pieces.append(piece.group(1));
        }
        Check.holds("README tells answers", TOLD.matcher(pieces).results().count() > 40);
        run(TOLD.matcher(pieces).replaceAll("Check.due(\"README: $1\", $1, $3L);"));
        Check.end("ReadmeTest");
    }

    private static void namesEachCall(String readme) {
        for (var method : GoalsInAQueue.class.getDeclaredMethods()) {
            String call = method.getName();
            Check.holds("README names " + call, !Modifier.isPublic(method.getModifiers())
                || readme.contains("x." + call + "("));
        }
    }

    private static void run(String body) throws IOException, ReflectiveOperationException {
        Path folder = Files.createTempDirectory("readme");
        Path source = folder.resolve(RUN + ".java");
        // Into the folder that the tests were loaded from, so that it sees Check.
        Path classes = Path.of(ReadmeTest.class.getProtectionDomain().getCodeSource().getLocation().getPath());
        Files.writeString(source, "final class " + RUN + " { static void run() {\n" + body + "} }\n");
        int failed = ToolProvider.getSystemJavaCompiler().run(null, null, null, "-encoding", "UTF-8",
            "-cp", classes.toString(), "-d", classes.toString(), source.toString());
        Files.delete(source);
        Files.delete(folder);
        Check.due("README compiles", failed, 0);
        if (failed == 0) {
            var run = Class.forName(RUN).getDeclaredMethod("run");
            run.setAccessible(true);
            run.invoke(null);
        }
    }
}
