import java.io.IOException;
import java.lang.reflect.Method;
import java.lang.reflect.Modifier;
import java.net.URL;
import java.net.URLClassLoader;
import java.nio.file.Files;
import java.nio.file.Path;
import java.util.Comparator;
import java.util.List;
import java.util.Set;
import java.util.TreeSet;
import java.util.function.BiConsumer;
import java.util.regex.Matcher;
import java.util.regex.Pattern;
import java.util.stream.Stream;
import javax.tools.JavaCompiler;
import javax.tools.ToolProvider;

/** Each example of README.md answers what it says there: its Java is compiled and run as it stands. */
final class ReadmeTest {
    private static final Pattern BLOCK = Pattern.compile("(?ms)^```java\n(.*?)^```$");
    private static final Pattern EXAMPLE = Pattern.compile("^(x\\.(\\w+)\\(.*\\));\\s*// (-?\\d+|[A-Z]+)\\b.*$");
    private static final Pattern TEXT = Pattern.compile("(?m)^\\| `([^`]*)` \\| (-?\\d+) \\|");

    private static final Set<String> SHOWN = new TreeSet<>();

    public static void main(String[] args) throws Exception {
        String page = Files.readString(Path.of("README.md"));
        Path room = Files.createTempDirectory("readme");
        try {
            examples(page, room);
        } finally {
            remove(room);
        }
        texts(page);
        eachCallIsShown();
        Due.end();
    }

    private static void examples(String page, Path room) throws Exception {
        Matcher m = BLOCK.matcher(page);
        int blocks = 0;
        while (m.find()) {
            run(room, "Example" + blocks, m.group(1));
            blocks++;
        }
        Due.so("README.md has examples", blocks > 0);
    }

    private static String source(String name, String block) {
        StringBuilder source = new StringBuilder();
        source.append("public final class ").append(name).append(" {\n");
        source.append("public static void run(java.util.function.BiConsumer<String, int[]> due) {\n");
        for (String line : block.split("\n")) {
            source.append(checked(line)).append('\n');
        }
        return source.append("}\n}\n").toString();
    }

    /** A line that says an answer hands it over; another one stays as it is. */
    private static String checked(String line) {
        Matcher m = EXAMPLE.matcher(line);
        if (!m.matches()) {
            Due.so("README.md: no answer can be read off: " + line, !line.contains("//"));
            return line;
        }
        SHOWN.add(m.group(2));
        String want = Character.isUpperCase(m.group(3).charAt(0)) ? "NamedFabric." + m.group(3) : m.group(3);
        return "due.accept(\"" + m.group(1) + "\", new int[] {" + m.group(1) + ", " + want + "});";
    }

    private static void run(Path room, String name, String block) throws Exception {
        Path file = room.resolve(name + ".java");
        Files.writeString(file, source(name, block));
        JavaCompiler compiler = ToolProvider.getSystemJavaCompiler();
        int failed = compiler.run(null, null, null, "-cp", System.getProperty("java.class.path"), "-d", room.toString(),
            file.toString());
        Due.is("README.md: javac of " + name, failed, 0);
        if (failed != 0) {
            return;
        }
        BiConsumer<String, int[]> due = (call, answers) -> Due.is("README.md, " + name + ": " + call, answers[0], answers[1]);
        try (URLClassLoader loader = new URLClassLoader(new URL[] {room.toUri().toURL()}, ReadmeTest.class.getClassLoader())) {
            loader.loadClass(name).getMethod("run", BiConsumer.class).invoke(null, due);
        }
    }

    private static void texts(String page) {
        Matcher m = TEXT.matcher(page);
        int rows = 0;
        while (m.find()) {
            Due.is("README.md: tells() of '" + m.group(1) + "'", Due.tells(new NamedFabric(), m.group(1)),
                Integer.parseInt(m.group(2)));
            rows++;
        }
        Due.so("README.md has texts", rows > 0);
    }

    private static void eachCallIsShown() {
        for (Method m : NamedFabric.class.getDeclaredMethods()) {
            if (Modifier.isPublic(m.getModifiers())) {
                Due.so("README.md shows no answer of " + m.getName(), SHOWN.contains(m.getName()));
            }
        }
    }

    private static void remove(Path room) throws IOException {
        List<Path> all;
        try (Stream<Path> walk = Files.walk(room)) {
            all = walk.sorted(Comparator.reverseOrder()).toList();
        }
        for (Path one : all) {
            Files.delete(one);
        }
    }
}
