import java.io.IOException;
import java.lang.reflect.Method;
import java.lang.reflect.Modifier;
import java.net.URL;
import java.net.URLClassLoader;
import java.nio.file.Files;
import java.nio.file.Path;
import java.util.ArrayList;
import java.util.List;
import java.util.regex.Matcher;
import java.util.regex.Pattern;
import javax.tools.ToolProvider;

/** README.md's example: its Java is compiled as it stands there, and what is told behind each call must be answered. */
public final class ReadmeTest {
    private static final Pattern BLOCK = Pattern.compile("^```java\n(.*?)^```$", Pattern.DOTALL | Pattern.MULTILINE);
    private static final Pattern CALL = Pattern.compile(
        "(x\\..*\\));\\s*// (-?[0-9]+|true|false|NoSuchElementException)(?::? .*)?");
    private static final Pattern UNASKED = Pattern.compile("(RainOwed x = new RainOwed\\(\\)|tell\\(x, \".*\"\\));|");

    private final Checks c = new Checks();
    private final List<String> calls = new ArrayList<>();
    private final List<String> due = new ArrayList<>();
    private final StringBuilder members = new StringBuilder();
    private final StringBuilder statements = new StringBuilder();

    public static void main(String[] args) throws IOException, ReflectiveOperationException {
        new ReadmeTest().runAll();
    }

    private void runAll() throws IOException, ReflectiveOperationException {
        read(Files.readString(Path.of("README.md")));
        List<?> answers = answers();
        c.due("answers of the example", calls.size(), answers.size());
        for (int k = 0; k < Math.min(calls.size(), answers.size()); k++) {
            Object got = answers.get(k);
            c.due("README.md: " + calls.get(k) + " // " + due.get(k) + " answers " + got, true, due.get(k).equals(got));
        }
        for (Method method : RainOwed.class.getDeclaredMethods()) {
            if (Modifier.isPublic(method.getModifiers())) {
                c.due("README.md shows " + method.getName(), true, isShown(method.getName()));
            }
        }
        c.close("ReadmeTest");
    }

    private void read(String text) {
        Matcher block = BLOCK.matcher(text);
        while (block.find()) {
            if (block.group(1).startsWith("static ")) {
                members.append(block.group(1));
            } else {
                block.group(1).lines().forEach(this::readLine);
            }
        }
    }

    /** A call without an answer is wrong here, so that none goes by untested. */
    private void readLine(String line) {
        Matcher call = CALL.matcher(line);
        if (call.matches()) {
            calls.add(call.group(1));
            due.add(call.group(2));
            statements.append("try { answers.add(String.valueOf(").append(call.group(1)).append(")); }\n")
                .append("catch (NoSuchElementException e) { answers.add(\"NoSuchElementException\"); }\n");
        } else {
            c.due("README.md tells an answer in: " + line, true, UNASKED.matcher(line).matches());
            statements.append(line).append('\n');
        }
    }

    private List<?> answers() throws IOException, ReflectiveOperationException {
        Path folder = Files.createTempDirectory("readme");
        Path source = folder.resolve("Shown.java");
        try {
            Files.writeString(source, "import java.util.*;\npublic final class Shown {\n" + members
                + "public static List<String> answers() {\nList<String> answers = new ArrayList<>();\n"
                + statements + "return answers;\n}\n}\n");
            int failed = ToolProvider.getSystemJavaCompiler().run(null, null, null, "-d", folder.toString(),
                "-cp", System.getProperty("java.class.path"), source.toString());
            c.due("README.md's Java compiles", 0, failed);
            if (failed != 0) {
                return List.of();
            }
            try (URLClassLoader loader = new URLClassLoader(new URL[] {folder.toUri().toURL()})) {
                return (List<?>) loader.loadClass("Shown").getMethod("answers").invoke(null);
            }
        } finally {
            Files.deleteIfExists(folder.resolve("Shown.class"));
            Files.deleteIfExists(source);
            Files.deleteIfExists(folder);
        }
    }

    private boolean isShown(String name) {
        for (String call : calls) {
            if (call.startsWith("x." + name + "(")) {
                return true;
            }
        }
        return false;
    }
}
