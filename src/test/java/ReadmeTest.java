import java.io.ByteArrayOutputStream;
import java.io.PrintStream;
import java.lang.reflect.Method;
import java.net.URL;
import java.net.URLClassLoader;
import java.nio.charset.StandardCharsets;
import java.nio.file.Files;
import java.nio.file.Path;
import java.util.ArrayList;
import java.util.List;
import java.util.regex.Matcher;
import java.util.regex.Pattern;
import java.util.stream.Stream;
import javax.tools.ToolProvider;

/** README.md holds: its land is one, its program compiles and prints what stands there, every call and test is named. */
public final class ReadmeTest {
    private static final Path README = Path.of("README.md");
    private static final String PROGRAM = "Evening";

    public static void main(String[] args) throws Exception {
        String text = Files.readString(README);
        List<String> plain = blocks(text, "text");
        List<String> programs = blocks(text, "java");
        Check.due("texts in README.md", plain.size(), 2);
        Check.due("programs in README.md", programs.size(), 1);
        if (plain.size() == 2 && programs.size() == 1) {
            Check.good(plain.get(0), 2);
            Check.due("the program prints", printed(programs.get(0)), plain.get(1));
        }
        everyCallIsNamed(text);
        everyTestIsNamed(text);
        Check.finish();
    }

    private static List<String> blocks(String text, String sort) {
        List<String> all = new ArrayList<>();
        Matcher block = Pattern.compile("(?s)```" + sort + "\n(.*?)```").matcher(text);
        while (block.find()) {
            all.add(block.group(1));
        }
        return all;
    }

    private static String printed(String program) throws Exception {
        Path folder = Files.createTempDirectory("readme");
        try {
            Path source = folder.resolve(PROGRAM + ".java");
            Files.writeString(source, program);
            int failed = ToolProvider.getSystemJavaCompiler().run(null, null, null, "-proc:none", "-cp",
                    System.getProperty("java.class.path"), "-d", folder.toString(), source.toString());
            return failed != 0 ? "it does not compile" : run(folder);
        } finally {
            remove(folder);
        }
    }

    private static String run(Path folder) throws Exception {
        ByteArrayOutputStream got = new ByteArrayOutputStream();
        PrintStream before = System.out;
        try (URLClassLoader loader = new URLClassLoader(new URL[] {folder.toUri().toURL()});
                PrintStream into = new PrintStream(got, true, StandardCharsets.UTF_8)) {
            System.setOut(into);
            loader.loadClass(PROGRAM).getMethod("main", String[].class).invoke(null, (Object) new String[0]);
        } finally {
            System.setOut(before);
        }
        return got.toString(StandardCharsets.UTF_8).replace(System.lineSeparator(), "\n");
    }

    private static void remove(Path folder) throws Exception {
        try (Stream<Path> files = Files.list(folder)) {
            for (Path each : files.toList()) {
                Files.delete(each);
            }
        }
        Files.delete(folder);
    }

    private static void everyCallIsNamed(String text) {
        for (Method method : NightHouses.class.getMethods()) {
            if (method.getDeclaringClass() == NightHouses.class) {
                Pattern named = Pattern.compile("`" + method.getName() + "[`(]");
                Check.due("README.md names " + method.getName(), named.matcher(text).find(), true);
            }
        }
    }

    private static void everyTestIsNamed(String text) throws Exception {
        try (Stream<Path> files = Files.list(Path.of("src/test/java"))) {
            for (Path each : files.toList()) {
                String name = each.getFileName().toString().replace(".java", "");
                if (name.endsWith("Test")) {
                    Check.due("README.md names " + name, Pattern.compile("\\b" + name + "\\b").matcher(text).find(), true);
                }
            }
        }
    }
}
