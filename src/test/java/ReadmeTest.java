import java.io.ByteArrayOutputStream;
import java.io.File;
import java.io.IOException;
import java.io.PrintStream;
import java.lang.reflect.Method;
import java.net.URL;
import java.net.URLClassLoader;
import java.nio.charset.StandardCharsets;
import java.nio.file.Files;
import java.nio.file.Path;
import java.util.Set;
import java.util.TreeSet;
import java.util.regex.Matcher;
import java.util.regex.Pattern;
import javax.tools.ToolProvider;

/** The examples of README.md answer what stands there, and there is one for every call. */
public final class ReadmeTest {
    private static final Pattern BLOCK = Pattern.compile("(?s)```(\\w+)\n(.*?)```");
    private static final Pattern CALL = Pattern.compile("desk\\.(\\w+)\\(([-0-9, ]*)\\); +// (-?[0-9]+|true|false)(:.*)?");

    private final Check check = new Check();
    private final Set<String> shown = new TreeSet<>();
    private final String text;

    private ReadmeTest() throws IOException {
        text = Files.readString(Path.of("README.md"));
    }

    public static void main(String[] args) throws IOException, ReflectiveOperationException {
        ReadmeTest test = new ReadmeTest();
        test.program();
        test.calls();
        test.tests();
        test.check.end("ReadmeTest");
    }

    /** The block of that language that has such words in it. */
    private String block(String language, String words) {
        Matcher m = BLOCK.matcher(text);
        while (m.find()) {
            if (m.group(1).equals(language) && m.group(2).contains(words)) {
                return m.group(2);
            }
        }
        check.due("README.md has a block of " + language + " with " + words, false, true);
        return "";
    }

    private void program() throws IOException, ReflectiveOperationException {
        Path folder = Files.createTempDirectory("readme");
        Path file = folder.resolve("Example.java");
        Files.writeString(file, block("java", "class Example"));
        String classes = System.getProperty("java.class.path");
        int failed = ToolProvider.getSystemJavaCompiler().run(null, null, null, "-encoding", "US-ASCII", "-cp", classes,
            "-d", folder.toString(), file.toString());
        check.due("the program compiles", failed, 0);
        if (failed == 0) {
            check.due("what the program prints", printed(folder), block("text", ""));
        }
        for (File made : folder.toFile().listFiles()) {
            Files.delete(made.toPath());
        }
        Files.delete(folder);
    }

    private static String printed(Path folder) throws IOException, ReflectiveOperationException {
        PrintStream before = System.out;
        ByteArrayOutputStream caught = new ByteArrayOutputStream();
        try (URLClassLoader loader = new URLClassLoader(new URL[] {folder.toUri().toURL()})) {
            System.setOut(new PrintStream(caught, true, StandardCharsets.UTF_8));
            loader.loadClass("Example").getMethod("main", String[].class).invoke(null, (Object) new String[0]);
        } finally {
            System.setOut(before);
        }
        return caught.toString(StandardCharsets.UTF_8).replace("\r", "");
    }

    private void calls() throws ReflectiveOperationException {
        SurdDesk desk = new SurdDesk();
        for (String line : block("java", "desk.partial(").split("\n")) {
            Matcher m = CALL.matcher(line);
            if (m.matches()) {
                shown.add(m.group(1));
                check.due(line, answer(desk, m.group(1), m.group(2).split(", ")), m.group(3));
            } else {
                check.due(line + " is no call", line.startsWith("desk."), false);
            }
        }
        for (Method m : SurdDesk.class.getDeclaredMethods()) {
            check.due("README.md shows " + m, java.lang.reflect.Modifier.isPublic(m.getModifiers()), shown.contains(m.getName()));
        }
    }

    private String answer(SurdDesk desk, String name, String[] words) throws ReflectiveOperationException {
        for (Method m : SurdDesk.class.getDeclaredMethods()) {
            Class<?>[] types = m.getParameterTypes();
            if (m.getName().equals(name) && types.length == words.length) {
                Object[] values = new Object[words.length];
                for (int k = 0; k < words.length; k++) {
                    long value = Long.parseLong(words[k]);
                    values[k] = types[k] == long.class ? (Object) value : (Object) (int) value;
                }
                return m.invoke(desk, values).toString();
            }
        }
        return "no such call";
    }

    private void tests() {
        for (File file : new File("src/test/java").listFiles()) {
            String name = file.getName().replace(".java", "");
            check.due("README.md names " + name, text.contains("| " + name + " |") || text.contains("`" + name + "`"), true);
        }
    }
}
