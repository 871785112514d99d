import java.io.ByteArrayOutputStream;
import java.io.IOException;
import java.io.PrintStream;
import java.lang.reflect.Method;
import java.lang.reflect.Modifier;
import java.net.URL;
import java.net.URLClassLoader;
import java.nio.file.Files;
import java.nio.file.Path;
import java.util.ArrayList;
import java.util.List;
import java.util.regex.Matcher;
import java.util.regex.Pattern;
import java.util.stream.Stream;
import javax.tools.ToolProvider;

/** That the example of README.md compiles, and prints what its comments say. */
public final class ReadmeTest {
    private static final String PROGRAM = "src/main/java/MethodPlanner.java";
    private static final Pattern EXAMPLE = Pattern.compile("```java\n(.*?)```", Pattern.DOTALL);
    private static final Pattern NAME = Pattern.compile("public final class (\\w+)");
    private static final Pattern PRINTED = Pattern.compile("println\\((.*)\\);\\s*// (-?\\d+|true|false)\\b");
    private static final Pattern CALL = Pattern.compile("\\bx\\.(\\w+)\\(");

    private static int wrong = 0;

    private static void check(boolean fits, String what) {
        if (!fits) {
            wrong++;
            System.out.println("not as due: " + what);
        }
    }

    private static String firstIn(Pattern pattern, String text) {
        Matcher found = pattern.matcher(text);
        if (!found.find()) {
            throw new IllegalStateException("README.md has nothing like " + pattern);
        }
        return found.group(1);
    }

    private static List<String> outputOf(String name, String code, Path folder) throws Exception {
        Path source = folder.resolve(name + ".java");
        Files.writeString(source, code);
        int failed = ToolProvider.getSystemJavaCompiler().run(null, null, null,
                "--release", "17", "-d", folder.toString(), PROGRAM, source.toString());
        if (failed != 0) {
            throw new IllegalStateException("the example of README.md doesn't compile");
        }
        PrintStream screen = System.out;
        ByteArrayOutputStream printed = new ByteArrayOutputStream();
        // Without a parent that knows the classes of this test, the example gets its own program.
        URL[] place = {folder.toUri().toURL()};
        try (URLClassLoader loader = new URLClassLoader(place, ClassLoader.getPlatformClassLoader())) {
            System.setOut(new PrintStream(printed, true));
            loader.loadClass(name).getMethod("main", String[].class).invoke(null, (Object) new String[0]);
        } finally {
            System.setOut(screen);
        }
        return printed.toString().lines().toList();
    }

    private static void compare(String code, List<String> output) {
        List<String> calls = new ArrayList<>();
        List<String> said = new ArrayList<>();
        Matcher line = PRINTED.matcher(code);
        while (line.find()) {
            calls.add(line.group(1));
            said.add(line.group(2));
        }
        check(output.size() == code.split("println").length - 1, "every println prints a line");
        check(said.size() == output.size(), "every println says what it prints");
        for (int i = 0; i < said.size() && i < output.size(); i++) {
            check(said.get(i).equals(output.get(i)),
                    calls.get(i) + " prints " + output.get(i) + ", README.md says " + said.get(i));
        }
    }

    private static void everyCallIsShown(String readme, String code) {
        List<String> shown = new ArrayList<>();
        Matcher call = CALL.matcher(code);
        while (call.find()) {
            shown.add(call.group(1));
        }
        for (Method m : MethodPlanner.class.getDeclaredMethods()) {
            if (Modifier.isPublic(m.getModifiers())) {
                check(shown.contains(m.getName()), "the example uses " + m.getName());
                check(readme.contains("| `" + m.getName() + "("), "the table of calls has " + m.getName());
            }
        }
    }

    private static void remove(Path folder) throws IOException {
        try (Stream<Path> files = Files.list(folder)) {
            for (Path file : files.toList()) {
                Files.delete(file);
            }
        }
        Files.delete(folder);
    }

    public static void main(String[] args) throws Exception {
        String readme = Files.readString(Path.of("README.md"));
        String code = firstIn(EXAMPLE, readme);
        Path folder = Files.createTempDirectory("readme");
        try {
            compare(code, outputOf(firstIn(NAME, code), code, folder));
        } finally {
            remove(folder);
        }
        everyCallIsShown(readme, code);
        if (wrong != 0) {
            System.exit(1);
        }
        System.out.println("the example answers as it says");
    }
}
