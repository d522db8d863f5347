import java.io.IOException;
import java.lang.reflect.Method;
import java.lang.reflect.Modifier;
import java.net.URL;
import java.net.URLClassLoader;
import java.nio.file.Files;
import java.nio.file.Path;
import java.util.ArrayList;
import java.util.Comparator;
import java.util.List;
import java.util.regex.Matcher;
import java.util.regex.Pattern;
import java.util.stream.Stream;
import javax.tools.ToolProvider;

/** README.md: its Java is compiled, and what it says of an answer is what the class answers. */
public final class ReadmeTest {
    private static final Pattern BLOCK = Pattern.compile("(?s)```java\n(.*?)```");
    private static final Pattern ASKED = Pattern.compile("(.*\\));\\s*// (-?\\d+|true|false)(:.*)?");
    private static final Pattern MADE = Pattern.compile("VeilOfStones x = new VeilOfStones\\(\\);");
    private static final Check CHECK = new Check();

    public static void main(String[] args) throws Exception {
        Path main = Path.of(args.length > 0 ? args[0] : "src/main/java/VeilOfStones.java").toAbsolutePath();
        Path root = main.resolve("../../../..").normalize();
        String readme = Files.readString(root.resolve("README.md"));
        run(example(readme));
        namesAllCalls(readme);
        namesAllTests(readme, root.resolve("src/test/java"));
        CHECK.end();
    }

    /** What the page's code calls for each answer that it tells. */
    public static void due(String call, Object got, String told) {
        boolean same = String.valueOf(got).equals(told);
        CHECK.due(call + " answers " + got + ", README.md says " + told + ": right", same, true);
    }

    /** One class of all blocks: methods as they stand, rows of calls as a method with a due for each. */
    private static String example(String readme) {
        StringBuilder rows = new StringBuilder();
        StringBuilder methods = new StringBuilder();
        int asked = 0;
        Matcher block = BLOCK.matcher(readme);
        while (block.find()) {
            if (block.group(1).startsWith("static ")) {
                methods.append(block.group(1));
                continue;
            }
            rows.append("{\n");
            for (String row : block.group(1).split("\n")) {
                Matcher call = ASKED.matcher(row);
                if (call.matches()) {
                    String name = call.group(1).replace("\"", "'");
                    rows.append("ReadmeTest.due(\"" + name + "\", " + call.group(1) + ", \"" + call.group(2) + "\");\n");
                    asked++;
                } else {
                    CHECK.due("a row of README.md without an answer: " + row, MADE.matcher(row).matches(), true);
                    rows.append(row).append('\n');
                }
            }
            rows.append("}\n");
        }
        CHECK.due("README.md tells answers", asked > 20, true);
        return "public class Example {\npublic static void run() {\n" + rows + "}\n" + methods + "}\n";
    }

    private static void run(String example) throws Exception {
        Path room = Files.createTempDirectory("readme");
        try {
            Path source = Files.writeString(room.resolve("Example.java"), example);
            int failed = ToolProvider.getSystemJavaCompiler().run(null, null, null, "-proc:none", "-d", room.toString(),
                "-cp", System.getProperty("java.class.path"), source.toString());
            CHECK.due("README.md compiles", failed, 0);
            if (failed == 0) {
                try (URLClassLoader loader = new URLClassLoader(new URL[] {room.toUri().toURL()})) {
                    loader.loadClass("Example").getMethod("run").invoke(null);
                }
            }
        } finally {
            remove(room);
        }
    }

    private static void remove(Path room) throws IOException {
        List<Path> all = new ArrayList<>();
        try (Stream<Path> paths = Files.walk(room)) {
            paths.sorted(Comparator.reverseOrder()).forEach(all::add);
        }
        for (Path path : all) {
            Files.delete(path);
        }
    }

    private static void namesAllCalls(String readme) {
        for (Method method : VeilOfStones.class.getDeclaredMethods()) {
            if (Modifier.isPublic(method.getModifiers())) {
                CHECK.due("README.md shows " + method.getName(), readme.contains("x." + method.getName() + "("), true);
            }
        }
    }

    private static void namesAllTests(String readme, Path tests) throws IOException {
        try (Stream<Path> paths = Files.list(tests)) {
            for (Path path : paths.sorted().toList()) {
                String name = path.getFileName().toString().replace(".java", "");
                if (name.endsWith("Test")) {
                    CHECK.due("README.md tells of " + name, readme.contains("`" + name + "`"), true);
                }
            }
        }
    }
}
