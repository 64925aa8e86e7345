import java.io.IOException;
import java.lang.reflect.Method;
import java.lang.reflect.Modifier;
import java.net.URL;
import java.net.URLClassLoader;
import java.nio.file.DirectoryStream;
import java.nio.file.Files;
import java.nio.file.Path;
import java.util.ArrayList;
import java.util.List;
import java.util.regex.Matcher;
import java.util.regex.Pattern;
import javax.tools.ToolProvider;

/** README.md: its examples compile and answer what they tell, and all calls, answers and tests stand in it. */
public final class ReadmeTest {
    /** A call that stands alone in its line, and the answer with which its comment begins. */
    private static final Pattern CALL = Pattern.compile("(x\\.\\w+\\(.*?\\)); +// (-?\\d+)\\b.*");

    public static void main(String[] args) throws Exception {
        Path root = Path.of(args.length > 0 ? args[0] : "src/main/java/TokenRounds.java").toAbsolutePath()
            .getParent().getParent().getParent().getParent();
        String text = Files.readString(root.resolve("README.md"));
        examples(text);
        allCalls(text);
        allTests(text, root.resolve("src/test/java"));
        Check.end("ReadmeTest");
    }

    private static void examples(String text) throws Exception {
        List<String> lines = javaLines(text);
        List<String> calls = new ArrayList<>();
        List<Long> due = new ArrayList<>();
        StringBuilder body = new StringBuilder();
        for (String line : lines) {
            Matcher told = CALL.matcher(line);
            if (told.matches()) {
                calls.add(told.group(1));
                due.add(Long.parseLong(told.group(2)));
                body.append("got.add((long) ").append(told.group(1)).append(");\n");
            } else {
                body.append(line).append('\n');
            }
        }
        Check.holds("README.md has some examples", calls.size() >= 20);
        List<?> got = run(body.toString());
        Check.due("answers of the examples", got.size(), calls.size());
        for (int i = 0; i < got.size(); i++) {
            Check.due("README.md: " + calls.get(i), (Long) got.get(i), due.get(i));
        }
    }

    /** The lines of all blocks of Java, which go on with the same object. */
    private static List<String> javaLines(String text) {
        List<String> lines = new ArrayList<>();
        boolean inside = false;
        for (String line : text.split("\n")) {
            if (line.startsWith("```")) {
                inside = line.equals("```java");
            } else if (inside) {
                lines.add(line);
            }
        }
        return lines;
    }

    private static List<?> run(String body) throws Exception {
        Path folder = Files.createTempDirectory("readme");
        Path source = folder.resolve("Example.java");
        Files.writeString(source, "public final class Example {\npublic static java.util.List<Long> run() {\n"
            + "java.util.List<Long> got = new java.util.ArrayList<>();\n" + body + "return got;\n}\n}\n");
        int ended = ToolProvider.getSystemJavaCompiler().run(null, null, null, "-cp", System.getProperty("java.class.path"),
            "-d", folder.toString(), source.toString());
        Check.due("compiling the examples", ended, 0);
        List<?> got = List.of();
        if (ended == 0) {
            try (URLClassLoader loader = new URLClassLoader(new URL[] {folder.toUri().toURL()})) {
                got = (List<?>) loader.loadClass("Example").getMethod("run").invoke(null);
            }
        }
        remove(folder);
        return got;
    }

    private static void remove(Path folder) throws IOException {
        try (DirectoryStream<Path> files = Files.newDirectoryStream(folder)) {
            for (Path file : files) {
                Files.delete(file);
            }
        }
        Files.delete(folder);
    }

    private static void allCalls(String text) throws IllegalAccessException {
        for (Method m : TokenRounds.class.getDeclaredMethods()) {
            if (Modifier.isPublic(m.getModifiers())) {
                Check.holds("README.md names the call " + m.getName(), text.contains("`" + m.getName() + "`"));
            }
        }
        for (var f : TokenRounds.class.getDeclaredFields()) {
            if (Modifier.isPublic(f.getModifiers())) {
                String row = "`" + f.getName() + "` " + f.getInt(null);
                Check.holds("README.md tells the answer " + row, text.contains(row + " "));
            }
        }
    }

    private static void allTests(String text, Path folder) throws IOException {
        Check.holds("README.md tells how to run the tests", text.contains("\nbash .ci/run\n"));
        try (DirectoryStream<Path> files = Files.newDirectoryStream(folder, "*Test.java")) {
            for (Path file : files) {
                String name = file.getFileName().toString().replace(".java", "");
                Check.holds("README.md names the test " + name, text.contains("`" + name + "`"));
            }
        }
    }
}
