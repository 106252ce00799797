import java.io.IOException;
import java.lang.reflect.Method;
import java.lang.reflect.Modifier;
import java.net.URL;
import java.net.URLClassLoader;
import java.nio.file.Files;
import java.nio.file.Path;
import java.util.ArrayList;
import java.util.List;
import java.util.regex.Matcher;
import java.util.regex.Pattern;
import javax.tools.ToolProvider;

/**
 * What README.md shows is what the class answers: its java blocks, one behind the other, are compiled as one run
 * of calls on one object. Started from the project's folder, as LanguageTest is.
 */
public final class ReadmeTest {
    private static final Pattern BLOCK = Pattern.compile("(?s)```java\n(.*?)```");
    private static final Pattern SHOWN = Pattern.compile("(x\\.(\\w+)\\(.*\\));\\s+// (-?\\d+|NONE|BAD|STATE|FULL)(:.*)?");
    private static final Path OUT = Path.of("build", "readme");

    private final StringBuilder helpers = new StringBuilder();
    private final StringBuilder body = new StringBuilder();
    private final List<String> calls = new ArrayList<>();
    private final List<String> names = new ArrayList<>();
    private final List<Integer> wanted = new ArrayList<>();

    public static void main(String[] args) throws IOException, ReflectiveOperationException {
        new ReadmeTest().check(Files.readString(Path.of("README.md")));
        Checks.end();
    }

    private void check(String page) throws IOException, ReflectiveOperationException {
        Matcher block = BLOCK.matcher(page);
        while (block.find()) {
            take(block.group(1));
        }
        for (Method method : PaceStore.class.getDeclaredMethods()) {
            if (Modifier.isPublic(method.getModifiers()) && !names.contains(method.getName())) {
                Checks.due("times that " + method.getName() + " is shown", 1, 0);
            }
        }
        int[] got = answers();
        for (int i = 0; i < got.length; i++) {
            Checks.due("README.md, " + calls.get(i), wanted.get(i), got[i]);
        }
        Checks.due("answers", calls.size(), got.length);
    }

    private void take(String block) {
        if (block.startsWith("static ")) {
            helpers.append(block);
            return;
        }
        for (String line : block.split("\n")) {
            Matcher shown = SHOWN.matcher(line);
            if (shown.matches()) {
                body.append("got[").append(calls.size()).append("] = ").append(shown.group(1)).append(";\n");
                calls.add(shown.group(1));
                names.add(shown.group(2));
                wanted.add(valueOf(shown.group(3)));
            } else {
                Checks.due("calls without an answer: " + line, 0, line.startsWith("x.") ? 1 : 0);
                body.append(line).append('\n');
            }
        }
    }

    private static int valueOf(String told) {
        switch (told) {
            case "NONE": return Checks.NONE;
            case "BAD": return Checks.BAD;
            case "STATE": return Checks.STATE;
            case "FULL": return Checks.FULL;
            default: return Integer.parseInt(told);
        }
    }

    private int[] answers() throws IOException, ReflectiveOperationException {
        Files.createDirectories(OUT);
        Path file = OUT.resolve("ReadmeShown.java");
        Files.writeString(file, "public final class ReadmeShown {\n" + helpers
                + "public static int[] answers() {\nint[] got = new int[" + calls.size() + "];\n" + body + "return got;\n}\n}\n");
        String path = System.getProperty("java.class.path");
        int exit = ToolProvider.getSystemJavaCompiler().run(null, null, null, "-cp", path, "-d", OUT.toString(), file.toString());
        Checks.due("javac of what README.md shows", 0, exit);
        if (exit != 0) {
            return new int[0];
        }
        try (URLClassLoader loader = new URLClassLoader(new URL[] {OUT.toUri().toURL()})) {
            return (int[]) loader.loadClass("ReadmeShown").getMethod("answers").invoke(null);
        }
    }
}
