import java.io.ByteArrayOutputStream;
import java.io.IOException;
import java.io.PrintStream;
import java.lang.reflect.InvocationTargetException;
import java.lang.reflect.Method;
import java.lang.reflect.Modifier;
import java.net.URL;
import java.net.URLClassLoader;
import java.nio.charset.StandardCharsets;
import java.nio.file.Files;
import java.nio.file.Path;
import java.util.ArrayList;
import java.util.List;
import java.util.stream.Stream;
import javax.tools.JavaCompiler;
import javax.tools.ToolProvider;

/** The example in README.md compiles, prints what its comments say, and uses the whole face. */
public final class ReadmeTest {
    private static final Path README = Path.of("README.md");
    private static final String MAIN = "src/main/java/TermOrders.java";
    private static final String PRINT = "System.out.println(";
    private static final String PROMISE = "// prints ";
    private static int wrong = 0;

    private static void fault(String what) {
        wrong++;
        System.out.println(what);
    }

    /** The lines of the Java programs that stand in README.md, each program by itself. */
    private static List<List<String>> examples() throws IOException {
        List<List<String>> found = new ArrayList<>();
        List<String> open = null;
        for (String line : Files.readAllLines(README, StandardCharsets.UTF_8)) {
            if (line.equals("```java")) {
                open = new ArrayList<>();
                found.add(open);
            } else if (line.startsWith("```")) {
                open = null;
            } else if (open != null) {
                open.add(line);
            }
        }
        return found;
    }

    /** What the comments say that is printed; the note in brackets behind it is for readers alone. */
    private static List<String> promised(List<String> example) {
        List<String> answers = new ArrayList<>();
        for (String line : example) {
            int at = line.indexOf(PROMISE);
            if (line.contains(PRINT) != at >= 0) {
                fault("a line prints without saying what, or says so without printing: " + line);
            } else if (at >= 0) {
                answers.add(line.substring(at + PROMISE.length()).replaceAll(" \\(.*\\)$", ""));
            }
        }
        return answers;
    }

    /** Compiled together with the class, as each test is. */
    private static boolean isCompiled(List<String> example, Path directory) throws IOException {
        Path source = directory.resolve("Example.java");
        Files.write(source, example, StandardCharsets.UTF_8);
        JavaCompiler javac = ToolProvider.getSystemJavaCompiler();
        return javac != null && javac.run(null, System.out, System.out, "-encoding", "UTF-8",
                "--release", "17", "-d", directory.toString(), MAIN, source.toString()) == 0;
    }

    private static List<String> printed(Path directory) throws Exception {
        ByteArrayOutputStream bytes = new ByteArrayOutputStream();
        PrintStream before = System.out;
        Throwable thrown = null;
        URL[] place = {directory.toUri().toURL()};
        try (URLClassLoader loader =
                new URLClassLoader(place, ClassLoader.getPlatformClassLoader())) {
            System.setOut(new PrintStream(bytes, true, StandardCharsets.UTF_8));
            loader.loadClass("Example").getMethod("main", String[].class)
                    .invoke(null, (Object) new String[0]);
        } catch (InvocationTargetException e) {
            thrown = e.getCause();
        } finally {
            System.setOut(before);
        }
        if (thrown != null) {
            fault("the example throws " + thrown);
        }
        return bytes.toString(StandardCharsets.UTF_8).lines().toList();
    }

    private static void checkAnswers(List<String> example, Path directory) throws Exception {
        if (!isCompiled(example, directory)) {
            fault("the example does not compile");
            return;
        }
        List<String> want = promised(example);
        List<String> got = printed(directory);
        for (int i = 0; i < Math.max(want.size(), got.size()); i++) {
            String due = i < want.size() ? want.get(i) : "nothing";
            String answer = i < got.size() ? got.get(i) : "nothing";
            if (!answer.equals(due)) {
                fault("line " + i + " of what is printed is " + answer + ", due is " + due);
            }
        }
    }

    private static void checkWholeFace(List<String> example) {
        String text = String.join("\n", example);
        for (Method m : TermOrders.class.getDeclaredMethods()) {
            if (Modifier.isPublic(m.getModifiers()) && !text.contains("x." + m.getName() + "(")) {
                fault("the example does not use " + m.getName());
            }
        }
    }

    private static void delete(Path directory) throws IOException {
        try (Stream<Path> files = Files.list(directory)) {
            for (Path file : files.toList()) {
                Files.delete(file);
            }
        }
        Files.delete(directory);
    }

    public static void main(String[] args) throws Exception {
        List<List<String>> examples = examples();
        if (examples.size() != 1) {
            fault("README.md has " + examples.size() + " examples, due is 1");
        }
        for (List<String> example : examples) {
            Path directory = Files.createTempDirectory("readme");
            checkAnswers(example, directory);
            checkWholeFace(example);
            delete(directory);
        }
        System.out.println(wrong == 0 ? "README.md says what is so" : wrong + " faults");
        System.exit(wrong == 0 ? 0 : 1);
    }
}
