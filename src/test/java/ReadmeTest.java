import java.io.ByteArrayOutputStream;
import java.io.PrintStream;
import java.lang.reflect.InvocationTargetException;
import java.net.URL;
import java.net.URLClassLoader;
import java.nio.file.Files;
import java.nio.file.Path;
import java.util.ArrayList;
import java.util.Comparator;
import java.util.List;
import java.util.regex.Matcher;
import java.util.regex.Pattern;
import java.util.stream.Stream;
import javax.tools.ToolProvider;

/** The example of README.md is compiled and run: each line that prints must print what stands behind it. */
public final class ReadmeTest {
    private static final Pattern EXAMPLE = Pattern.compile("(?s)```java\n(.*?)```");
    private static final Pattern PRINTED = Pattern.compile("System\\.out\\.println\\((.*)\\);\\s*// ([^:\\s]+)");

    public static void main(String[] args) throws Exception {
        Check c = new Check();
        Matcher example = EXAMPLE.matcher(Files.readString(Path.of("README.md")));
        c.due("an example", example.find(), true);
        String source = example.group(1);
        List<String> calls = new ArrayList<>();
        List<String> due = new ArrayList<>();
        Matcher printed = PRINTED.matcher(source);
        while (printed.find()) {
            calls.add(printed.group(1));
            due.add(printed.group(2));
        }
        c.due("lines that print", calls.size(), source.lines().filter(line -> line.contains("println")).count());
        List<String> lines = run(source).lines().toList();
        c.due("lines printed", lines.size(), calls.size());
        for (int i = 0; i < Math.min(lines.size(), calls.size()); i++) {
            c.due(calls.get(i), lines.get(i), due.get(i));
        }
        c.close();
    }

    private static String run(String source) throws Exception {
        Path folder = Files.createTempDirectory("readme");
        try {
            Path file = Files.writeString(folder.resolve("Example.java"), source);
            int wrong = ToolProvider.getSystemJavaCompiler().run(null, null, null, "-Xlint:all", "-Werror",
                    "-cp", System.getProperty("java.class.path"), "-d", folder.toString(), file.toString());
            return wrong == 0 ? printed(folder) : "it does not compile";
        } finally {
            try (Stream<Path> files = Files.walk(folder)) {
                for (Path file : files.sorted(Comparator.reverseOrder()).toList()) {
                    Files.delete(file);
                }
            }
        }
    }

    private static String printed(Path folder) throws Exception {
        ByteArrayOutputStream bytes = new ByteArrayOutputStream();
        PrintStream before = System.out;
        try (URLClassLoader loader = new URLClassLoader(new URL[] {folder.toUri().toURL()});
                PrintStream out = new PrintStream(bytes, true)) {
            System.setOut(out);
            loader.loadClass("Example").getMethod("main", String[].class).invoke(null, (Object) new String[0]);
        } catch (InvocationTargetException e) {
            return "it threw " + e.getCause();
        } finally {
            System.setOut(before);
        }
        return bytes.toString();
    }
}
