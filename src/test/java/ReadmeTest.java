import java.io.ByteArrayOutputStream;
import java.io.IOException;
import java.io.PrintStream;
import java.lang.reflect.Method;
import java.lang.reflect.Modifier;
import java.net.URL;
import java.net.URLClassLoader;
import java.nio.charset.StandardCharsets;
import java.nio.file.Files;
import java.nio.file.Path;
import java.util.regex.Matcher;
import java.util.regex.Pattern;
import javax.tools.ToolProvider;

/** README.md: its programs print what stands below them, and every call is told of. */
public final class ReadmeTest {
    private static final String CLASSES = System.getProperty("java.class.path");

    public static void main(String[] args) throws IOException, ReflectiveOperationException {
        String readme = Files.readString(Path.of(System.getProperty("readme", "README.md")));
        programs(readme);
        calls(readme);
        Due.end("ReadmeTest");
    }

    /** The oracle must print the same: else the README may only say what the class does, right or not. */
    private static void programs(String readme) throws IOException, ReflectiveOperationException {
        Matcher found = Pattern.compile("```java\n(.*?)```\\s*It prints\\s*```text\n(.*?)```", Pattern.DOTALL).matcher(readme);
        int programs = 0;
        while (found.find()) {
            programs++;
            Due.same("program " + programs, printed(found.group(1)), found.group(2));
            Due.same("program " + programs + " with the oracle", printed(found.group(1).replace("SharedWindow", "Oracle")),
                found.group(2));
        }
        Due.is("programs", programs, 2);
        Due.is("blocks of Java", readme.split("```java", -1).length - 1, programs);
    }

    private static String printed(String program) throws IOException, ReflectiveOperationException {
        Matcher name = Pattern.compile("class (\\w+)").matcher(program);
        Path place = Files.createTempDirectory("readme");
        if (!name.find()) {
            return "no class";
        }
        Path source = place.resolve(name.group(1) + ".java");
        Files.writeString(source, program);
        int failed = ToolProvider.getSystemJavaCompiler().run(null, null, null, "-Xlint:all", "-cp", CLASSES, "-d",
            place.toString(), source.toString());
        return failed != 0 ? "it does not compile" : run(place, name.group(1));
    }

    /** With a loader of its own for both, as the oracle is to be seen in its own package only. */
    private static String run(Path place, String name) throws IOException, ReflectiveOperationException {
        URL[] both = {place.toUri().toURL(), Path.of(CLASSES).toUri().toURL()};
        PrintStream screen = System.out;
        ByteArrayOutputStream caught = new ByteArrayOutputStream();
        try (URLClassLoader loader = new URLClassLoader(both, ClassLoader.getPlatformClassLoader());
            PrintStream paper = new PrintStream(caught, true, StandardCharsets.UTF_8)) {
            System.setOut(paper);
            loader.loadClass(name).getMethod("main", String[].class).invoke(null, (Object) new String[0]);
        } finally {
            System.setOut(screen);
        }
        return caught.toString(StandardCharsets.UTF_8).replace(System.lineSeparator(), "\n");
    }

    private static void calls(String readme) {
        for (Method method : SharedWindow.class.getDeclaredMethods()) {
            if (Modifier.isPublic(method.getModifiers())) {
                Due.yes("told of: " + method.getName(), readme.contains("`" + method.getName() + "`"));
            }
        }
        Due.yes("how it is made", readme.contains("`new SharedWindow()`"));
        Due.yes("how its tests are run", readme.contains("bash .ci/run"));
    }
}
