import java.io.ByteArrayOutputStream;
import java.io.File;
import java.io.PrintStream;
import java.lang.reflect.Method;
import java.lang.reflect.Modifier;
import java.net.URL;
import java.net.URLClassLoader;
import java.nio.file.Files;
import java.nio.file.Path;
import java.util.ArrayList;
import java.util.List;
import java.util.regex.Matcher;
import java.util.regex.Pattern;
import javax.tools.ToolProvider;

/** README.md: its example prints what it says there, and each call of the face is told of. */
public final class ReadmeTest {
    public static void main(String[] args) throws Exception {
        String readme = Files.readString(Path.of("README.md"));
        String example = codeOf(readme);
        List<String> said = answersSaid(example);
        List<String> printed = answersPrinted(example);
        if (said.isEmpty() || !said.equals(printed)) {
            Check.fail("the example prints " + printed + ", README.md says " + said);
        }
        eachCallIsToldOf(readme);
        Check.finish();
    }

    private static String codeOf(String readme) {
        Matcher m = Pattern.compile("(?s)```java\n(.*?)```").matcher(readme);
        return m.find() ? m.group(1) : "";
    }

    private static List<String> answersSaid(String example) {
        List<String> said = new ArrayList<>();
        Matcher m = Pattern.compile("println\\(.*\\); *// (true|false|-?[0-9]+):").matcher(example);
        while (m.find()) {
            said.add(m.group(1));
        }
        return said;
    }

    private static List<String> answersPrinted(String example) throws Exception {
        Path dir = Files.createTempDirectory("readme");
        Path source = dir.resolve("Example.java");
        Files.writeString(source, example);
        String classes = System.getProperty("java.class.path");
        int failed = ToolProvider.getSystemJavaCompiler().run(null, null, null, "-cp", classes, "-d", dir.toString(), source.toString());
        List<String> printed = failed == 0 ? run(dir) : List.of("nothing, for it does not compile");
        for (File file : dir.toFile().listFiles()) {
            file.delete();
        }
        dir.toFile().delete();
        return printed;
    }

    private static List<String> run(Path dir) throws Exception {
        PrintStream out = System.out;
        ByteArrayOutputStream bytes = new ByteArrayOutputStream();
        try (URLClassLoader loader = new URLClassLoader(new URL[] {dir.toUri().toURL()})) {
            System.setOut(new PrintStream(bytes, true));
            loader.loadClass("Example").getMethod("main", String[].class).invoke(null, (Object) new String[0]);
        } finally {
            System.setOut(out);
        }
        return bytes.toString().lines().toList();
    }

    private static void eachCallIsToldOf(String readme) {
        String page = readme.replaceAll("(?s)```.*?```", "");
        for (Method method : StatueRent.class.getDeclaredMethods()) {
            if (Modifier.isPublic(method.getModifiers()) && !page.contains("`" + method.getName() + "(")) {
                Check.fail("README.md does not tell of " + method.getName());
            }
        }
    }
}
