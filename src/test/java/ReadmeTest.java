import java.io.File;
import java.io.IOException;
import java.nio.file.Files;
import java.nio.file.Path;
import java.util.regex.Matcher;
import java.util.regex.Pattern;

/** The example of README.md compiles, and prints what README.md says it prints. */
public final class ReadmeTest {
    private static final Pattern EXAMPLE =
        Pattern.compile("```java\n(.*?)```\n\nIt prints:\n\n```text\n(.*?)```", Pattern.DOTALL);

    public static void main(String[] args) throws IOException, InterruptedException {
        Check check = new Check();
        String readme = Files.readString(Path.of(System.getProperty("readme", "README.md")));
        Matcher example = EXAMPLE.matcher(readme);
        boolean found = example.find();
        check.isTrue("there is an example", found);
        if (found) {
            check.same("the example", printed(example.group(1)), example.group(2));
        }
        check.end();
    }

    private static String printed(String source) throws IOException, InterruptedException {
        Path room = Files.createTempDirectory("readme");
        Path file = room.resolve("Example.java");
        String classes = System.getProperty("java.class.path") + File.pathSeparator + room;
        try {
            Files.writeString(file, source);
            return run("javac", "-cp", classes, "-d", room.toString(), file.toString())
                + run("java", "-cp", classes, "Example");
        } finally {
            Files.deleteIfExists(room.resolve("Example.class"));
            Files.deleteIfExists(file);
            Files.deleteIfExists(room);
        }
    }

    /** What a command prints; its errors go where this test's go. */
    private static String run(String... command) throws IOException, InterruptedException {
        Process process = new ProcessBuilder(command).redirectError(ProcessBuilder.Redirect.INHERIT).start();
        String printed = new String(process.getInputStream().readAllBytes());
        int code = process.waitFor();
        return code == 0 ? printed : printed + "exit code " + code;
    }
}
