import java.io.File;
import java.io.IOException;
import java.lang.reflect.Method;
import java.lang.reflect.Modifier;
import java.nio.file.DirectoryStream;
import java.nio.file.Files;
import java.nio.file.Path;
import java.util.Comparator;
import java.util.List;
import java.util.stream.Stream;

/** README.md: its example can be compiled and prints what the page says; every call and every test is named. */
public final class ReadmeTest {
    private static final Check CHECK = new Check();

    public static void main(String[] args) throws IOException, InterruptedException {
        String page = Files.readString(Path.of("README.md"));
        CHECK.promise("README.md");
        for (String command : new String[] {"javac -d out src/main/java/NoWordTwice.java\n",
            "javac -cp out -d out Example.java\njava -cp out Example\n", ".ci/run\n"}) {
            CHECK.due("it says " + command, page.contains("```sh\n" + command + "```"), true);
        }
        callsAreNamed(page);
        testsAreNamed(page);
        exampleHolds(block(page, "java"), block(page, "text"));
        CHECK.finish();
    }

    /** The first block of a kind. */
    private static String block(String page, String kind) {
        String fence = "```" + kind + "\n";
        int from = page.indexOf(fence);
        int to = page.indexOf("```", from + fence.length());
        CHECK.due("there is a block of " + kind, from >= 0 && to >= 0, true);
        return from < 0 || to < 0 ? "" : page.substring(from + fence.length(), to);
    }

    private static void callsAreNamed(String page) {
        for (Method m : NoWordTwice.class.getDeclaredMethods()) {
            if (Modifier.isPublic(m.getModifiers())) {
                CHECK.due("it names " + m.getName(), page.contains("`" + m.getName() + "`"), true);
            }
        }
    }

    private static void testsAreNamed(String page) throws IOException {
        try (DirectoryStream<Path> files = Files.newDirectoryStream(Path.of("src/test/java"), "*Test.java")) {
            for (Path file : files) {
                String name = file.getFileName().toString().replace(".java", "");
                CHECK.due("it names " + name, page.contains("`" + name + "`"), true);
            }
        }
    }

    private static void exampleHolds(String program, String output) throws IOException, InterruptedException {
        Path room = Files.createTempDirectory("readme");
        try {
            Path file = Files.writeString(room.resolve("Example.java"), program);
            String classes = System.getProperty("java.class.path");
            run(List.of("javac", "-cp", classes, "-d", room.toString(), file.toString()));
            String printed = run(List.of("java", "-cp", classes + File.pathSeparator + room, "Example"));
            CHECK.due("the example prints\n" + printed + "what the page says", printed.equals(output), true);
        } finally {
            clear(room);
        }
    }

    private static String run(List<String> command) throws IOException, InterruptedException {
        Process process = new ProcessBuilder(command).redirectErrorStream(true).start();
        String printed = new String(process.getInputStream().readAllBytes());
        CHECK.due(String.join(" ", command) + " printed\n" + printed + "and ended", process.waitFor(), 0);
        return printed.replace("\r", "");
    }

    private static void clear(Path room) throws IOException {
        try (Stream<Path> files = Files.walk(room)) {
            for (Path file : files.sorted(Comparator.reverseOrder()).toList()) {
                Files.delete(file);
            }
        }
    }
}
