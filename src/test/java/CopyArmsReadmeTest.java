import java.io.ByteArrayOutputStream;
import java.io.IOException;
import java.io.PrintStream;
import java.lang.reflect.InvocationTargetException;
import java.lang.reflect.Method;
import java.lang.reflect.Modifier;
import java.net.URL;
import java.net.URLClassLoader;
import java.nio.charset.StandardCharsets;
import java.nio.file.Files;
import java.nio.file.Path;
import java.util.List;
import java.util.regex.Matcher;
import java.util.regex.Pattern;
import java.util.stream.Collectors;
import java.util.stream.Stream;
import javax.tools.ToolProvider;

/** README.md says how to use the class and how to run its tests: what it says is tried. */
public final class CopyArmsReadmeTest {
    private static int wrong = 0;

    public static void main(String[] args) throws IOException, ReflectiveOperationException {
        Path root = Path.of(System.getProperty("copyarms.root", "."));
        String page = Files.readString(root.resolve("README.md"), StandardCharsets.UTF_8);
        example(page);
        calls(page);
        tests(page, root.resolve("src/test/java"));
        System.out.println(wrong == 0 ? "README.md says what is so" : wrong + " things of README.md are not so");
        if (wrong != 0) {
            System.exit(1);
        }
    }

    private static void look(boolean good, String what) {
        if (!good) {
            wrong++;
            System.out.println("not so: " + what);
        }
    }

    /** The first block of Java is a whole program; the block of text behind it is what it prints. */
    private static void example(String page) throws IOException, ReflectiveOperationException {
        Matcher blocks = Pattern.compile("```java\n(.*?)```.*?```text\n(.*?)```", Pattern.DOTALL).matcher(page);
        if (!blocks.find()) {
            look(false, "an example and what it prints");
            return;
        }
        Path folder = Files.createTempDirectory("readme");
        try {
            Path source = folder.resolve("Example.java");
            Files.writeString(source, blocks.group(1), StandardCharsets.UTF_8);
            int code = ToolProvider.getSystemJavaCompiler().run(null, System.out, System.out,
                "-cp", System.getProperty("java.class.path"), "-d", folder.toString(), source.toString());
            look(code == 0, "the example can be compiled");
            if (code == 0) {
                String printed = printedBy(folder);
                look(printed.equals(blocks.group(2)), "the example prints\n" + printed);
            }
        } finally {
            remove(folder);
        }
    }

    private static String printedBy(Path folder) throws IOException, ReflectiveOperationException {
        ByteArrayOutputStream bytes = new ByteArrayOutputStream();
        PrintStream screen = System.out;
        try (URLClassLoader loader = new URLClassLoader(new URL[] {folder.toUri().toURL()});
            PrintStream page = new PrintStream(bytes, true, StandardCharsets.UTF_8)) {
            System.setOut(page);
            loader.loadClass("Example").getMethod("main", String[].class).invoke(null, (Object) new String[0]);
        } catch (InvocationTargetException e) {
            bytes.writeBytes(("and throws " + e.getCause()).getBytes(StandardCharsets.UTF_8));
        } finally {
            System.setOut(screen);
        }
        return bytes.toString(StandardCharsets.UTF_8).replace(System.lineSeparator(), "\n");
    }

    private static void remove(Path folder) throws IOException {
        try (Stream<Path> files = Files.list(folder)) {
            for (Path file : files.collect(Collectors.toList())) {
                Files.delete(file);
            }
        }
        Files.delete(folder);
    }

    /** Each call of the face has a row of the table, with as many arguments as it takes, and no other call has one. */
    private static void calls(String page) {
        List<String> rows = Pattern.compile("(?m)^\\| `(\\w+\\([^)]*\\))` \\|").matcher(page).results()
            .map(row -> shape(row.group(1))).sorted().collect(Collectors.toList());
        List<String> face = Stream.of(CopyArms.class.getDeclaredMethods()).filter(m -> Modifier.isPublic(m.getModifiers()))
            .map(CopyArmsReadmeTest::shape).sorted().collect(Collectors.toList());
        look(rows.equals(face), "the calls " + rows + " are those of the face " + face);
    }

    private static String shape(String call) {
        String inside = call.substring(call.indexOf('(') + 1, call.length() - 1);
        return call.substring(0, call.indexOf('(')) + "/" + (inside.isEmpty() ? 0 : inside.split(",").length);
    }

    private static String shape(Method method) {
        return method.getName() + "/" + method.getParameterCount();
    }

    private static void tests(String page, Path folder) throws IOException {
        look(page.contains("    bash .ci/run\n"), "how to run all tests");
        look(page.contains("`../shared/tests`"), "the shared tests");
        try (Stream<Path> files = Files.list(folder)) {
            for (Path file : files.collect(Collectors.toList())) {
                look(page.contains("`src/test/java/" + file.getFileName() + "`"), "a line for " + file.getFileName());
            }
        }
    }
}
