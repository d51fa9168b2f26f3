import java.io.ByteArrayOutputStream;
import java.io.IOException;
import java.io.PrintStream;
import java.lang.reflect.Method;
import java.net.URL;
import java.net.URLClassLoader;
import java.nio.file.Files;
import java.nio.file.Path;
import java.util.ArrayList;
import java.util.HashSet;
import java.util.List;
import java.util.Set;
import java.util.regex.Matcher;
import java.util.regex.Pattern;
import javax.tools.ToolProvider;

/** What README.md says of the use holds: its program answers what stands behind its signs //, its table has every call. */
public final class ReadmeTest {
    private static final Path README = Path.of("README.md");

    public static void main(String[] args) throws IOException, ReflectiveOperationException {
        String readme = Files.readString(README);
        Matcher block = Pattern.compile("(?s)```java\n(.*?)```").matcher(readme);
        Check.due("a program in README.md", block.find() ? 1 : 0, 1);
        String program = block.group(1);
        List<String> due = new ArrayList<>();
        Matcher answer = Pattern.compile("show\\(x\\..*; +// (-?\\d+):").matcher(program);
        while (answer.find()) {
            due.add(answer.group(1));
        }
        Check.due("answers in README.md", due.size() > 9 ? 1 : 0, 1);
        Check.same("what the program of README.md answers", said(program), String.join("\n", due));
        calls(readme);
        Check.finish("ReadmeTest");
    }

    private static String said(String program) throws IOException, ReflectiveOperationException {
        Path folder = Files.createTempDirectory("readme");
        Path source = Files.writeString(folder.resolve("Example.java"), program);
        int refused = ToolProvider.getSystemJavaCompiler().run(null, null, null, "-cp", System.getProperty("java.class.path"),
            "-d", folder.toString(), source.toString());
        Check.due("the program of README.md is compiled", refused, 0);
        PrintStream out = System.out;
        ByteArrayOutputStream said = new ByteArrayOutputStream();
        try (URLClassLoader loader = new URLClassLoader(new URL[] {folder.toUri().toURL()})) {
            System.setOut(new PrintStream(said));
            loader.loadClass("Example").getMethod("main", String[].class).invoke(null, (Object) new String[0]);
        } finally {
            System.setOut(out);
            for (String name : List.of("Example.java", "Example.class", "")) {
                Files.deleteIfExists(folder.resolve(name));
            }
        }
        return said.toString().strip();
    }

    private static void calls(String readme) {
        Set<String> named = new HashSet<>();
        for (String line : readme.split("\n")) {
            Matcher name = Pattern.compile("`(\\w+)`").matcher(line);
            while (line.startsWith("| ") && name.find()) {
                named.add(name.group(1));
            }
        }
        for (Method method : BalloonGrocers.class.getMethods()) {
            if (method.getDeclaringClass() == BalloonGrocers.class) {
                Check.due(method.getName() + " stands in README.md", named.contains(method.getName()) ? 1 : 0, 1);
            }
        }
    }
}
