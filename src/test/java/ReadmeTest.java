import java.io.ByteArrayOutputStream;
import java.io.IOException;
import java.io.PrintStream;
import java.lang.reflect.Method;
import java.lang.reflect.Modifier;
import java.net.URL;
import java.net.URLClassLoader;
import java.nio.charset.StandardCharsets;
import java.nio.file.DirectoryStream;
import java.nio.file.Files;
import java.nio.file.Path;
import java.util.ArrayList;
import java.util.List;
import java.util.Set;
import java.util.TreeSet;
import java.util.regex.Matcher;
import java.util.regex.Pattern;
import javax.tools.ToolProvider;

/** What README.md shows of the class's answers is what the class answers. */
public final class ReadmeTest {
    private static final Path README = Path.of("README.md");
    private static final Path TESTS = Path.of("src/test/java");
    private static final Pattern ROW = Pattern.compile("\\| ?(.*?) ?\\| `(.*?)` \\| (-?\\d+) \\| ?(.*?) ?\\|");
    private static final Pattern ITEM = Pattern.compile("`(.*?)`");
    private static final Pattern REGISTER = Pattern.compile("(\\d) \"(.*)\"");
    private static final Pattern CALL = Pattern.compile("(\\w+)\\((.*)\\)");

    private static final Set<String> called = new TreeSet<>();

    public static void main(String[] args) throws ReflectiveOperationException, IOException {
        String readme = Files.readString(README);
        for (String line : readme.lines().toList()) {
            if (line.startsWith("|") && !line.startsWith("| Before") && !line.startsWith("|---")) {
                row(line);
            }
        }
        Desk.due("the calls that are shown", called.toString(), calls().toString());
        example(readme);
        testsAreNamed(readme);
        Desk.finish();
    }

    private static void row(String line) throws ReflectiveOperationException {
        Matcher row = ROW.matcher(line);
        if (!row.matches()) {
            Desk.due(line, "is no row of a table", "a row");
            return;
        }
        Desk d = new Desk();
        for (String item : items(row.group(1))) {
            Matcher register = REGISTER.matcher(item);
            if (register.matches()) {
                d.set(Integer.parseInt(register.group(1)), register.group(2));
            } else {
                Desk.due(item + " of " + line, answer(d, item) == NumberDesk.NONE ? "NONE" : "done", "done");
            }
        }
        Desk.due(line, answer(d, row.group(2)), Integer.parseInt(row.group(3)));
        called.add(row.group(2).replaceAll("\\(.*", ""));
        for (String item : items(row.group(4))) {
            int r = item.charAt(0) - '0';
            Desk.due(line, r + " \"" + d.text(r) + "\"", item);
        }
    }

    private static List<String> items(String cell) {
        List<String> items = new ArrayList<>();
        Matcher item = ITEM.matcher(cell);
        while (item.find()) {
            items.add(item.group(1));
        }
        return items;
    }

    private static int answer(Desk d, String text) throws ReflectiveOperationException {
        Matcher call = CALL.matcher(text);
        if (!call.matches()) {
            throw new IllegalArgumentException(text);
        }
        String[] words = call.group(2).split(", ");
        Object[] values = new Object[words.length];
        Class<?>[] types = new Class<?>[words.length];
        for (int i = 0; i < words.length; i++) {
            boolean flag = words[i].equals("true") || words[i].equals("false");
            types[i] = flag ? boolean.class : int.class;
            values[i] = flag ? (Object) Boolean.valueOf(words[i]) : (Object) Integer.valueOf(words[i]);
        }
        return (Integer) NumberDesk.class.getMethod(call.group(1), types).invoke(d.desk, values);
    }

    private static Set<String> calls() {
        Set<String> calls = new TreeSet<>();
        for (Method m : NumberDesk.class.getDeclaredMethods()) {
            if (Modifier.isPublic(m.getModifiers())) {
                calls.add(m.getName());
            }
        }
        return calls;
    }

    private static void example(String readme) throws ReflectiveOperationException, IOException {
        Path folder = Files.createTempDirectory("readme");
        Path source = folder.resolve("Example.java");
        Files.writeString(source, "public class Example { public static void main(String[] args) {\n"
                + block(readme, "java") + "} }\n");
        int compiled = ToolProvider.getSystemJavaCompiler().run(null, System.out, System.out,
                "-cp", System.getProperty("java.class.path"), "-d", folder.toString(), source.toString());
        Desk.due("compiling the example", compiled, 0);
        Desk.due("the example", compiled == 0 ? printed(folder) : "", block(readme, "text").strip());
        for (String name : new String[] {"Example.java", "Example.class"}) {
            Files.deleteIfExists(folder.resolve(name));
        }
        Files.delete(folder);
    }

    private static String printed(Path folder) throws ReflectiveOperationException, IOException {
        ByteArrayOutputStream bytes = new ByteArrayOutputStream();
        PrintStream out = System.out;
        try (URLClassLoader loader = new URLClassLoader(new URL[] {folder.toUri().toURL()})) {
            System.setOut(new PrintStream(bytes, true, StandardCharsets.ISO_8859_1));
            loader.loadClass("Example").getMethod("main", String[].class).invoke(null, (Object) new String[0]);
        } finally {
            System.setOut(out);
        }
        return bytes.toString(StandardCharsets.ISO_8859_1);
    }

    private static String block(String readme, String language) {
        Matcher block = Pattern.compile("^```" + language + "\n(.*?)^```$", Pattern.MULTILINE | Pattern.DOTALL).matcher(readme);
        return block.find() ? block.group(1) : "";
    }

    private static void testsAreNamed(String readme) throws IOException {
        try (DirectoryStream<Path> tests = Files.newDirectoryStream(TESTS, "*Test.java")) {
            for (Path test : tests) {
                String name = test.getFileName().toString().replace(".java", "");
                Desk.due(name, readme.contains("`" + name + "` (") || readme.contains("- `" + name + "`:") ? "named" : "not named", "named");
            }
        }
    }
}
