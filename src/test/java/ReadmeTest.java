import java.io.ByteArrayOutputStream;
import java.io.IOException;
import java.io.PrintStream;
import java.lang.reflect.Member;
import java.lang.reflect.Modifier;
import java.net.URL;
import java.net.URLClassLoader;
import java.nio.file.Files;
import java.nio.file.Path;
import java.util.ArrayList;
import java.util.List;
import java.util.regex.Matcher;
import java.util.regex.Pattern;
import java.util.stream.Stream;
import javax.tools.ToolProvider;

/** README.md: its examples print what the comments beside the prints say; it has every method, constant and test. */
public final class ReadmeTest {
    private static final Pattern EXAMPLE = Pattern.compile("^```java\n(.*?)^```$", Pattern.DOTALL | Pattern.MULTILINE);
    private static final Pattern PRINTED = Pattern.compile("println\\(.*\\); *// *([^:\n]+)");

    public static void main(String[] args) throws Exception {
        String readme = Files.readString(Path.of("README.md"));
        Path directory = Files.createTempDirectory("readme");
        try {
            Matcher example = EXAMPLE.matcher(readme);
            int examples = 0;
            while (example.find()) {
                examples++;
                runExample("Example" + examples, example.group(1), directory);
            }
            Check.due("README.md has examples", examples > 0, true);
        } finally {
            delete(directory);
        }
        checkNames(readme);
        Check.end();
    }

    private static void runExample(String name, String lines, Path directory) throws Exception {
        List<String> due = new ArrayList<>();
        Matcher printed = PRINTED.matcher(lines);
        while (printed.find()) {
            due.add(printed.group(1).strip());
        }
        Path source = directory.resolve(name + ".java");
        Files.writeString(source, "public class " + name + " {\npublic static void main(String[] args) {\n" + lines + "}\n}\n");
        int compiled = ToolProvider.getSystemJavaCompiler().run(null, null, null,
            "-cp", System.getProperty("java.class.path"), "-d", directory.toString(), source.toString());
        Check.due(name + " of README.md compiles", compiled, 0);
        if (compiled == 0) {
            List<String> got = output(name, directory);
            Check.due(name + " of README.md prints " + got + ", by its comments " + due, got.equals(due) && !due.isEmpty(), true);
        }
    }

    private static List<String> output(String name, Path directory) throws Exception {
        PrintStream before = System.out;
        ByteArrayOutputStream out = new ByteArrayOutputStream();
        try (URLClassLoader loader = new URLClassLoader(new URL[] {directory.toUri().toURL()})) {
            System.setOut(new PrintStream(out, true));
            loader.loadClass(name).getMethod("main", String[].class).invoke(null, (Object) new String[0]);
        } finally {
            System.setOut(before);
        }
        return out.toString().lines().toList();
    }

    private static void checkNames(String readme) throws IOException {
        List<Member> members = new ArrayList<>(List.of(PluginHost.class.getDeclaredFields()));
        members.addAll(List.of(PluginHost.class.getDeclaredMethods()));
        for (Member member : members) {
            if (Modifier.isPublic(member.getModifiers())) {
                Check.due("README.md tells of " + member.getName(), tells(readme, "`" + member.getName() + "[(`]"), true);
            }
        }
        try (Stream<Path> files = Files.list(Path.of("src/test/java"))) {
            for (Path file : files.toList()) {
                String name = file.getFileName().toString().replace(".java", "");
                if (name.endsWith("Test")) {
                    Check.due("README.md tells of " + name, tells(readme, "[| ]" + name + "[, ]"), true);
                }
            }
        }
    }

    private static boolean tells(String readme, String pattern) {
        return Pattern.compile(pattern).matcher(readme).find();
    }

    private static void delete(Path directory) throws IOException {
        try (Stream<Path> files = Files.list(directory)) {
            for (Path file : files.toList()) {
                Files.delete(file);
            }
        }
        Files.delete(directory);
    }
}
