import java.io.IOException;
import java.lang.reflect.InvocationTargetException;
import java.lang.reflect.Method;
import java.lang.reflect.Modifier;
import java.net.URL;
import java.net.URLClassLoader;
import java.nio.file.DirectoryStream;
import java.nio.file.Files;
import java.nio.file.Path;
import java.util.Set;
import java.util.TreeSet;
import java.util.regex.Matcher;
import java.util.regex.Pattern;
import javax.tools.ToolProvider;

/** README.md: its example compiles and answers as it says, and it names all calls and all tests. */
public final class ReadmeTest {
    private static final Pattern ANSWERED = Pattern.compile("(?:int (\\w+) = )?(x\\..*);\\s*// (-?\\d+): .*");
    private static int looked = 0;
    private static int wrong = 0;

    /** Called by the example, once it is made into a program. */
    public static void due(String line, long got, long want) {
        looked++;
        must(got == want, line + " answered " + got);
    }

    private static void must(boolean holds, String what) {
        if (holds) return;
        wrong++;
        System.out.println("README.md: " + what);
    }

    public static void main(String[] args) throws IOException, ReflectiveOperationException {
        String page = Files.readString(Path.of("README.md"));
        namesAllCalls(page);
        namesAllTests(page);
        Path folder = Files.createTempDirectory("readme");
        try {
            plays(folder, page.substring(page.indexOf("```java\n") + 8, page.indexOf("```\n\n")));
        } finally {
            Files.deleteIfExists(folder.resolve("Example.java"));
            Files.deleteIfExists(folder.resolve("Example.class"));
            Files.delete(folder);
        }
        must(looked >= 20, "only " + looked + " answers in the example");
        System.out.println("ReadmeTest: " + looked + " answers, " + wrong + " wrong");
        if (wrong != 0) System.exit(1);
    }

    private static Set<String> named(String page, String pattern) {
        Set<String> all = new TreeSet<>();
        Matcher m = Pattern.compile(pattern).matcher(page);
        while (m.find()) all.add(m.group(1));
        return all;
    }

    private static void namesAllCalls(String page) {
        Set<String> face = new TreeSet<>();
        for (Method m : LockTable.class.getDeclaredMethods()) if (Modifier.isPublic(m.getModifiers())) face.add(m.getName());
        String rows = page.substring(page.indexOf("| --- |"), page.indexOf("What can not be done"));
        must(named(rows, "`(\\w+)`").equals(face), "the calls are " + face);
    }

    private static void namesAllTests(String page) throws IOException {
        Set<String> files = new TreeSet<>();
        try (DirectoryStream<Path> all = Files.newDirectoryStream(Path.of("src/test/java"), "*Test.java")) {
            for (Path file : all) files.add(file.getFileName().toString().replace(".java", ""));
        }
        must(named(page, "`(\\w+Test)`").equals(files), "the tests are " + files);
    }

    private static void plays(Path folder, String example) throws IOException, ReflectiveOperationException {
        StringBuilder program = new StringBuilder("public class Example {\npublic static void main(String[] args) {\n");
        for (String line : example.split("\n")) program.append(checked(line)).append('\n');
        Path file = folder.resolve("Example.java");
        Files.writeString(file, program.append("}\n}\n"));
        String path = System.getProperty("java.class.path");
        int refused = ToolProvider.getSystemJavaCompiler().run(null, null, null, "-cp", path, file.toString());
        must(refused == 0, "the example does not compile");
        if (refused != 0) return;
        try (URLClassLoader loader = new URLClassLoader(new URL[] {folder.toUri().toURL()}, ReadmeTest.class.getClassLoader())) {
            loader.loadClass("Example").getMethod("main", String[].class).invoke(null, (Object) new String[0]);
        } catch (InvocationTargetException e) {
            must(false, "the example throws " + e.getCause());
        }
    }

    private static String checked(String line) {
        Matcher m = ANSWERED.matcher(line);
        if (!m.matches()) return line;
        String keeps = m.group(1) == null ? "" : "int " + m.group(1) + " = " + m.group(2) + "; ";
        String answer = m.group(1) == null ? m.group(2) : m.group(1);
        return keeps + "ReadmeTest.due(\"" + m.group(2).replace("\"", "\\\"") + "\", " + answer + ", " + m.group(3) + ");";
    }
}
