import java.lang.reflect.Method;
import java.lang.reflect.Modifier;
import java.net.URL;
import java.net.URLClassLoader;
import java.nio.charset.StandardCharsets;
import java.nio.file.Files;
import java.nio.file.Path;
import java.util.List;
import java.util.regex.Matcher;
import java.util.regex.Pattern;
import javax.tools.ToolProvider;

/**
 * README's example answers as it says, and README names every call; the arguments: README.md, the
 * classes' folder, an empty folder.
 */
public final class ReadmeTest {
    private static int wrong = 0;
    private static int answers = 0;

    private ReadmeTest() {
    }

    /** What the example, as a class, calls for each of its rows. */
    public static void due(String call, long got, long want) {
        answers++;
        if (got != want) {
            wrong++;
            System.out.println("README: " + call + " answered " + got + ", due is " + want);
        }
    }

    private static void example(String readme, String classes, Path folder) throws Exception {
        Matcher block = Pattern.compile("(?s)```java\n(.*?)```").matcher(readme);
        due("an example", block.find() ? 1 : 0, 1);
        String rows = block.group(1).replaceAll("(?m)^(x\\..*?);\\s*// (-?\\d+)(?::.*)?$", "ReadmeTest.due(\"$1\", $1, $2L);");
        Path file = folder.resolve("Example.java");
        Files.writeString(file, "public final class Example { public static void run() {\n" + rows + "} }\n");
        List<String> how = List.of("-cp", classes, "-d", folder.toString(), file.toString());
        due("javac", ToolProvider.getSystemJavaCompiler().run(null, null, null, how.toArray(new String[0])), 0);
        try (URLClassLoader loader = new URLClassLoader(new URL[] {folder.toUri().toURL()})) {
            loader.loadClass("Example").getMethod("run").invoke(null);
        }
    }

    private static void names(String readme) {
        for (Method m : SomebodysLift.class.getDeclaredMethods()) {
            boolean told = !Modifier.isPublic(m.getModifiers()) || readme.contains("`" + m.getName() + "`");
            due("README names " + m.getName(), told ? 1 : 0, 1);
        }
    }

    public static void main(String[] args) throws Exception {
        String readme = Files.readString(Path.of(args[0]), StandardCharsets.ISO_8859_1);
        example(readme, args[1], Path.of(args[2]));
        due("rows of the example with an answer", answers > 20 ? 1 : 0, 1);
        names(readme);
        System.out.println(wrong == 0 ? "README is as it is" : wrong + " things README says are not so");
        if (wrong != 0) {
            System.exit(1);
        }
    }
}
