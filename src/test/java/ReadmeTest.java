import java.lang.reflect.Method;
import java.net.URL;
import java.net.URLClassLoader;
import java.nio.file.Files;
import java.nio.file.Path;
import java.util.ArrayList;
import java.util.List;
import java.util.regex.Matcher;
import java.util.regex.Pattern;
import java.util.stream.Stream;
import javax.tools.ToolProvider;

/** README.md says how to use the class: its example compiles, answers as told, and has every call. */
public final class ReadmeTest {
    private static final Pattern BLOCK = Pattern.compile("(?s)```java\\n(.*?)```");
    /** A call on a line of its own, and the answer behind it: a number, or the name of a constant. */
    private static final Pattern CALL = Pattern.compile("(?m)^x\\.((\\w+)\\([^;]*\\)); +// (-?\\d+|[A-Z]+)\\b.*$");

    public static void main(String[] args) throws Exception {
        List<String> blocks = blocksOf(Files.readString(Path.of("README.md")));
        Check.due("blocks of Java", blocks.size(), 2);
        if (blocks.size() == 2) {
            everyCallIsThere(blocks.get(0) + blocks.get(1));
            everyCallHasItsAnswer(blocks.get(1));
            runExample(blocks.get(0), blocks.get(1));
        }
        Check.end("ReadmeTest");
    }

    private static List<String> blocksOf(String readme) {
        List<String> found = new ArrayList<>();
        Matcher block = BLOCK.matcher(readme);
        while (block.find()) {
            found.add(block.group(1));
        }
        return found;
    }

    private static void everyCallIsThere(String code) {
        for (Method method : TuneToEachHouse.class.getDeclaredMethods()) {
            boolean isCall = java.lang.reflect.Modifier.isPublic(method.getModifiers());
            Check.isTrue("README.md has " + method.getName(), !isCall || code.contains("x." + method.getName() + "("));
        }
    }

    private static void everyCallHasItsAnswer(String example) {
        long lines = example.lines().filter(line -> line.startsWith("x.")).count();
        Check.due("calls with an answer behind them", CALL.matcher(example).results().count(), lines);
    }

    private static void runExample(String tell, String example) throws Exception {
        Path folder = Files.createTempDirectory("readme");
        try {
            Path source = folder.resolve("Example.java");
            Files.writeString(source, sourceOf(tell, example));
            int code = ToolProvider.getSystemJavaCompiler().run(null, null, null, "-nowarn", "-proc:none",
                "-cp", System.getProperty("java.class.path"), "-d", folder.toString(), source.toString());
            Check.due("the example compiles", code, 0);
            if (code == 0) {
                run(folder);
            }
        } finally {
            remove(folder);
        }
    }

    private static String sourceOf(String tell, String example) {
        String calls = CALL.matcher(example).replaceAll(call -> {
            String answer = call.group(3).matches("[A-Z]+") ? "TuneToEachHouse." + call.group(3) : call.group(3);
            String name = "README.md: " + call.group(1);
            return Matcher.quoteReplacement("due(\"" + name + "\", x." + call.group(1) + ", " + answer + ");");
        });
        return "public final class Example {\n"
            + "public static final java.util.List<Object[]> answers = new java.util.ArrayList<>();\n"
            + "static void due(String call, long got, long want) { answers.add(new Object[] {call, got, want}); }\n"
            + tell + "public static void run() {\n" + calls + "}\n}\n";
    }

    private static void run(Path folder) throws Exception {
        URL[] urls = {folder.toUri().toURL()};
        try (URLClassLoader loader = new URLClassLoader(urls, ReadmeTest.class.getClassLoader())) {
            Class<?> example = loader.loadClass("Example");
            example.getMethod("run").invoke(null);
            for (Object answer : (List<?>) example.getField("answers").get(null)) {
                Object[] row = (Object[]) answer;
                Check.due((String) row[0], (Long) row[1], (Long) row[2]);
            }
        }
    }

    private static void remove(Path folder) throws Exception {
        List<Path> files;
        try (Stream<Path> all = Files.list(folder)) {
            files = all.toList();
        }
        for (Path file : files) {
            Files.delete(file);
        }
        Files.delete(folder);
    }
}
