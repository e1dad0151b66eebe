import java.io.ByteArrayOutputStream;
import java.io.IOException;
import java.io.PrintStream;
import java.lang.reflect.Field;
import java.lang.reflect.Method;
import java.lang.reflect.Modifier;
import java.net.URL;
import java.net.URLClassLoader;
import java.nio.file.Files;
import java.nio.file.Path;
import java.util.Comparator;
import java.util.List;
import java.util.stream.Stream;
import javax.tools.ToolProvider;

/** README.md says how to use the class: its example must print what it says, and no call may be left out. */
public final class ReadmeTest {
    public static void main(String[] args) throws IOException, ReflectiveOperationException {
        String readme = Files.readString(Path.of("README.md"));
        everyCallIsNamed(readme);
        everyConstantIsNamed(readme);
        Path folder = Files.createTempDirectory("readme");
        try {
            Due.is("the example prints", printedBy(fenced(readme, "java"), folder), fenced(readme, "text"));
        } finally {
            remove(folder);
        }
        Due.end("ReadmeTest");
    }

    private static void everyCallIsNamed(String readme) {
        for (Method method : CabacResidual.class.getDeclaredMethods()) {
            if (Modifier.isPublic(method.getModifiers())) {
                String row = "\n| `" + method.getName() + "(";
                Due.is("a row for " + method.getName(), readme.contains(row), true);
            }
        }
    }

    private static void everyConstantIsNamed(String readme) throws IllegalAccessException {
        List<String> rows = readme.lines().filter(line -> line.startsWith("| `")).toList();
        for (Field field : CabacResidual.class.getFields()) {
            String name = "`" + field.getName() + "`";
            String value = String.valueOf(field.getInt(null));
            boolean named = rows.stream().map(row -> row.split("\\|")).anyMatch(cells ->
                    cells[1].contains(name) && List.of(cells[2].strip().split(", ")).contains(value));
            Due.is("a row for " + name + " with " + value, named, true);
        }
    }

    /** The first block of the page that is fenced as this kind. */
    private static String fenced(String readme, String kind) {
        String fence = "```" + kind + "\n";
        int start = readme.indexOf(fence) + fence.length();
        return readme.substring(start, readme.indexOf("```", start));
    }

    private static String printedBy(String program, Path folder) throws IOException, ReflectiveOperationException {
        Path file = Files.writeString(folder.resolve("Example.java"), program);
        int compiled = ToolProvider.getSystemJavaCompiler().run(null, null, null, "--release", "17", "-cp",
                System.getProperty("java.class.path"), "-d", folder.toString(), file.toString());
        Due.is("the compiler's exit code for the example", compiled, 0);
        PrintStream before = System.out;
        ByteArrayOutputStream printed = new ByteArrayOutputStream();
        try (URLClassLoader loader = new URLClassLoader(new URL[] {folder.toUri().toURL()})) {
            Method main = loader.loadClass("Example").getMethod("main", String[].class);
            System.setOut(new PrintStream(printed, true));
            main.invoke(null, (Object) new String[0]);
        } finally {
            System.setOut(before);
        }
        return printed.toString().replace(System.lineSeparator(), "\n");
    }

    private static void remove(Path folder) throws IOException {
        try (Stream<Path> files = Files.walk(folder)) {
            for (Path file : files.sorted(Comparator.reverseOrder()).toList()) {
                Files.delete(file);
            }
        }
    }
}
