import java.lang.reflect.Method;
import java.lang.reflect.Modifier;
import java.net.URL;
import java.net.URLClassLoader;
import java.nio.file.Files;
import java.nio.file.Path;
import java.util.Arrays;
import java.util.Comparator;
import java.util.List;
import java.util.Set;
import java.util.TreeSet;
import java.util.regex.Matcher;
import java.util.regex.Pattern;
import java.util.stream.Stream;
import javax.tools.ToolProvider;

/** README.md: what it says is so when tried. */
final class ReadmeTest {
    private static final Pattern ANSWER = Pattern.compile("^(x\\.\\w+\\(.*\\)); *// (-?\\d+)(:.*)?$");

    private ReadmeTest() {
    }

    static void run() throws Exception {
        String text = Files.readString(Path.of("README.md"));
        example(text);
        statements(text);
        calls(text);
        names(text);
    }

    /** The example is compiled as it stands, each call held against the number behind it. */
    private static void example(String text) throws Exception {
        String block = between(text, "```java\n", "```");
        StringBuilder body = new StringBuilder();
        int answers = 0;
        for (String line : block.split("\n")) {
            Matcher answer = ANSWER.matcher(line);
            boolean isAnswer = answer.matches();
            answers += isAnswer ? 1 : 0;
            Due.so("README.md tells an answer: " + line, isAnswer || !line.startsWith("x."));
            body.append(isAnswer ? "told.add(new long[] {" + answer.group(1) + ", " + answer.group(2) + "L});" : line).append('\n');
        }
        Due.so("README.md shows calls", answers > 0);
        List<long[]> told = new java.util.ArrayList<>();
        Path home = Files.createTempDirectory("readme");
        try {
            Path source = home.resolve("ReadmeExample.java");
            Files.writeString(source, "public final class ReadmeExample { public static void tell(java.util.List<long[]> told) {\n"
                + body + "} }\n");
            int rc = ToolProvider.getSystemJavaCompiler().run(null, null, null, "-proc:none", "-d", home.toString(), "-cp",
                System.getProperty("java.class.path"), source.toString());
            Due.due("the example of README.md compiles", rc, 0);
            if (rc == 0) {
                try (URLClassLoader loader = new URLClassLoader(new URL[] {home.toUri().toURL()})) {
                    loader.loadClass("ReadmeExample").getMethod("tell", List.class).invoke(null, told);
                }
            }
        } finally {
            remove(home);
        }
        for (int i = 0; i < told.size(); i++) {
            Due.due("README.md, answer " + (i + 1), told.get(i)[0], told.get(i)[1]);
        }
        Due.due("answers of README.md", told.size(), answers);
    }

    /** Each statement that the table gives for instance is one. */
    private static void statements(String text) {
        Matcher row = Pattern.compile("(?m)^\\| `(\\w)` [^|]*\\| `([^`]*)` \\|").matcher(text);
        Set<String> heads = new TreeSet<>();
        while (row.find()) {
            heads.add(row.group(1));
            Due.so("README.md: " + row.group(2), row.group(2).startsWith(row.group(1)));
            Due.due("README.md: " + row.group(2), Due.tell(Due.told("ww40;"), row.group(2)), 1);
        }
        Due.so("README.md tells each statement " + heads, heads.equals(Set.of("w", "m", "s", "n", "b", "h")));
    }

    private static void calls(String text) {
        Set<String> due = new TreeSet<>();
        for (Method method : WallsByTheHour.class.getDeclaredMethods()) {
            if (Modifier.isPublic(method.getModifiers())) {
                due.add(method.getName());
            }
        }
        Set<String> have = new TreeSet<>();
        for (String line : between(text, "| calls | what they are for |\n| --- | --- |\n", "\n\n").split("\n")) {
            for (String word : line.split("\\|")[1].strip().split(" ")) {
                Due.so("README.md tells " + word + " once", have.add(word.replace("`", "")));
            }
        }
        Due.so("README.md tells each call " + have, have.equals(due));
    }

    /** The classes inside and the tests that it names are those that there are. */
    private static void names(String text) throws Exception {
        for (Class<?> one : WallsByTheHour.class.getDeclaredClasses()) {
            Due.so("README.md tells of " + one, text.contains("\n| `" + one.getSimpleName() + "` |"));
        }
        String[] files = Path.of("src/test/java").toFile().list();
        Due.so("there are tests", files != null && files.length > 0);
        for (String file : files == null ? new String[0] : files) {
            String name = file.replace(".java", "");
            Due.so("README.md tells of " + file, !name.endsWith("Test") || text.contains("`" + name + "`"));
        }
        Matcher named = Pattern.compile("`(\\w+Tests?)`").matcher(text);
        while (named.find()) {
            Due.so(named.group(1) + " of README.md is there", Arrays.asList(files).contains(named.group(1) + ".java"));
        }
    }

    private static String between(String text, String begin, String end) {
        int from = text.indexOf(begin);
        Due.so("README.md has " + begin.strip(), from >= 0);
        if (from < 0) {
            return "";
        }
        from += begin.length();
        int to = text.indexOf(end, from);
        return to < 0 ? text.substring(from) : text.substring(from, to);
    }

    private static void remove(Path home) throws Exception {
        try (Stream<Path> paths = Files.walk(home)) {
            for (Path path : paths.sorted(Comparator.reverseOrder()).toList()) {
                Files.delete(path);
            }
        }
    }
}
