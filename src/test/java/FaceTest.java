import java.io.IOException;
import java.lang.reflect.Constructor;
import java.lang.reflect.Field;
import java.lang.reflect.Method;
import java.lang.reflect.Modifier;
import java.nio.file.Files;
import java.nio.file.Path;
import java.util.Arrays;
import java.util.List;
import java.util.Set;
import java.util.TreeMap;
import java.util.TreeSet;
import java.util.regex.Matcher;
import java.util.regex.Pattern;

/** The public face of the document, and those rules of LANGUAGE.md that can be read off the class and its text. */
final class FaceTest {
    private static final Path SOURCE = Path.of("src/main/java/NamedFabric.java");
    private static final String[] METHODS = {
        "type 1", "clear 0", "tells 0", "joins 2", "cuts 2", "zones 3", "moves 2", "ranks 2", "renews 1",
        "allows 1", "undo 0", "device 2", "link 2", "zone 2", "host 2", "would 2", "weakest 1", "sees 3",
        "forget 0", "which 1", "ask 0", "keep 1", "back 1", "count 1"};
    private static final String[] FORBIDDEN = {
        "throw", "throws", "try", "catch", "finally", "synchronized", "assert", "import", "package", "protected",
        "native", "volatile", "var", "Object", "System\\.[a-z]*(?<!arraycopy)\\(", "hashCode", "toString",
        "\\w+Exact", "->", "::", "@"};

    public static void main(String[] args) throws IOException {
        theClass();
        theMethods();
        theConstants();
        classesInside();
        theText(Files.readString(SOURCE));
        Due.end();
    }

    private static void theClass() {
        int of = NamedFabric.class.getModifiers();
        Due.so("the class is public and final", Modifier.isPublic(of) && Modifier.isFinal(of));
        Constructor<?>[] all = NamedFabric.class.getDeclaredConstructors();
        Due.is("constructors", all.length, 1);
        Due.so("a public one without parameters", Modifier.isPublic(all[0].getModifiers()) && all[0].getParameterCount() == 0);
    }

    private static void theMethods() {
        Set<String> due = new TreeSet<>(Arrays.asList(METHODS));
        Set<String> is = new TreeSet<>();
        Set<String> hidden = new TreeSet<>();
        for (Method m : NamedFabric.class.getDeclaredMethods()) {
            if (Modifier.isPublic(m.getModifiers())) {
                is.add(m.getName() + " " + m.getParameterCount());
                Due.so(m + " takes and answers ints", m.getReturnType() == int.class
                    && Arrays.stream(m.getParameterTypes()).allMatch(t -> t == int.class));
            } else {
                Due.so(m + " is private", Modifier.isPrivate(m.getModifiers()));
                hidden.add(m.getName());
            }
        }
        Due.same("public methods", is.toString(), due.toString());
        for (String m : METHODS) {
            Due.so("a private method bears the name " + m, !hidden.contains(m.split(" ")[0]));
        }
    }

    private static void theConstants() {
        TreeMap<String, Integer> is = new TreeMap<>();
        for (Field f : NamedFabric.class.getDeclaredFields()) {
            int of = f.getModifiers();
            Due.so(f + " is final", Modifier.isFinal(of));
            if (!Modifier.isPrivate(of)) {
                Due.so(f + " is a public constant", Modifier.isPublic(of) && Modifier.isStatic(of) && f.getType() == int.class);
                is.put(f.getName(), 0);
            }
        }
        Due.same("public constants", is.keySet().toString(), "[BAD, FULL, NONE, STATE]");
        Due.is("BAD", NamedFabric.BAD, -1);
        Due.is("STATE", NamedFabric.STATE, -2);
        Due.is("FULL", NamedFabric.FULL, -3);
        Due.is("NONE", NamedFabric.NONE, -9);
    }

    private static void classesInside() {
        Class<?>[] inside = NamedFabric.class.getDeclaredClasses();
        Due.so("some twelve classes at most", inside.length < 12);
        List<String> face = Arrays.stream(METHODS).map(m -> m.split(" ")[0]).toList();
        for (Class<?> c : inside) {
            Due.so(c + " is static", Modifier.isStatic(c.getModifiers()));
            Due.so(c + " is not public", !Modifier.isPublic(c.getModifiers()));
            int fields = 0;
            for (Field f : c.getDeclaredFields()) {
                boolean fixed = Modifier.isStatic(f.getModifiers());
                fields += fixed ? 0 : 1;
                Due.so(f + ": static state", !fixed || Modifier.isFinal(f.getModifiers()));
            }
            Due.so(c + " has some twenty fields at most", fields <= 20);
            for (Method m : c.getDeclaredMethods()) {
                Due.so(m + " bears a name of the face", !face.contains(m.getName()));
                Due.so(m + " has seven parameters at most", m.getParameterCount() <= 7);
            }
        }
    }

    private static void theText(String source) {
        String code = source.replaceAll("(?s)/\\*.*?\\*/", "").replaceAll("//[^\n]*", "");
        for (String word : FORBIDDEN) {
            String pattern = Character.isLetter(word.charAt(0)) ? "\\b" + word + (word.endsWith("(") ? "" : "\\b") : word;
            Matcher m = Pattern.compile(pattern).matcher(code);
            Due.so("the text has " + word, !m.find());
        }
        for (char c : source.toCharArray()) {
            Due.so("a sign beyond 126: " + (int) c, c < 127);
        }
        int depth = 0;
        int[] opened = new int[40];
        String[] lines = source.split("\n");
        for (int i = 0; i < lines.length; i++) {
            for (char c : lines[i].toCharArray()) {
                if (c == '{') {
                    opened[depth++] = i;
                } else if (c == '}') {
                    int from = opened[--depth];
                    boolean method = lines[from].contains("(");
                    Due.so("a method of over sixty lines at line " + (from + 1), !method || i - from < 60);
                }
            }
        }
    }
}
