import java.io.IOException;
import java.lang.reflect.Method;
import java.lang.reflect.Modifier;
import java.nio.charset.StandardCharsets;
import java.nio.file.Files;
import java.nio.file.Path;
import java.util.regex.Matcher;
import java.util.regex.Pattern;
import java.util.stream.Stream;

/** README.md: its program says what it tells, and it names every call and every test. */
public final class ReadmeTest {
    private static final String PROGRAM = "Miller";
    private static final Path ROOM = Path.of("build", "readme");

    public static void main(String[] args) throws IOException, InterruptedException {
        String readme = Files.readString(Path.of("README.md"));
        program(block(readme, "java"), block(readme, "text"));
        calls(readme);
        tests(readme);
        Checks.end();
    }

    /** The first block of that kind; empty without. */
    private static String block(String readme, String kind) {
        Matcher found = Pattern.compile("(?s)```" + kind + "\\n(.*?)```").matcher(readme);
        boolean isThere = found.find();
        Checks.isSo("README.md has a block of " + kind, isThere);
        return isThere ? found.group(1) : "";
    }

    private static void program(String source, String due) throws IOException, InterruptedException {
        Files.createDirectories(ROOM);
        Path file = ROOM.resolve(PROGRAM + ".java");
        Files.writeString(file, source);
        said("javac", "-d", ROOM.toString(), "src/main/java/GroundByHearsay.java", file.toString());
        String said = said("java", "-cp", ROOM.toString(), PROGRAM);
        Checks.isSo("README.md's program says: " + said, said.equals(due));
    }

    private static String said(String... command) throws IOException, InterruptedException {
        Process process = new ProcessBuilder(command).redirectError(ProcessBuilder.Redirect.INHERIT).start();
        String all = new String(process.getInputStream().readAllBytes(), StandardCharsets.UTF_8);
        Checks.due("exit code: " + String.join(" ", command), process.waitFor(), 0);
        return all.replace(System.lineSeparator(), "\n");
    }

    private static void calls(String readme) {
        for (Method m : GroundByHearsay.class.getDeclaredMethods()) {
            if (Modifier.isPublic(m.getModifiers())) {
                Matcher head = Pattern.compile("`" + m.getName() + "\\(([^)]*)\\)`").matcher(readme);
                boolean told = head.find();
                int numbers = !told || head.group(1).isEmpty() ? 0 : head.group(1).split(",").length;
                Checks.isSo("README.md tells " + m.getName(), told && numbers == m.getParameterCount());
            }
        }
        for (int i = -1; i >= -4; i--) {
            Checks.isSo("README.md tells " + i, readme.contains("(" + i + ")"));
        }
    }

    private static void tests(String readme) throws IOException {
        Checks.isSo("README.md tells how all tests are run", readme.contains("```\n.ci/run\n```"));
        try (Stream<Path> files = Files.list(Path.of("src/test/java"))) {
            for (String name : files.map(file -> file.getFileName().toString()).toList()) {
                Checks.isSo("README.md names " + name, readme.contains("`" + name + "`"));
            }
        }
    }
}
