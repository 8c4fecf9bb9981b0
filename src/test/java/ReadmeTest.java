import java.lang.reflect.Modifier;
import java.net.URL;
import java.net.URLClassLoader;
import java.nio.file.Files;
import java.nio.file.Path;
import java.util.ArrayList;
import java.util.List;
import java.util.regex.Matcher;
import java.util.regex.Pattern;
import java.util.stream.Stream;

/** README.md is held against what stands: its example is compiled and run, each call and each test is named. */
public final class ReadmeTest {
    private static final Check c = new Check();
    private static final Pattern BLOCK = Pattern.compile("(?s)```java\n(.*?)```");
    /** A row of the example that is a call and tells its answer. */
    private static final Pattern TOLD = Pattern.compile("(x\\..*); +// (-?\\d+)(:.*)?");

    private static final List<String> calls = new ArrayList<>();
    private static final List<Long> told = new ArrayList<>();

    public static void main(String[] args) throws Exception {
        String readme = Files.readString(Path.of("README.md"));
        example(readme);
        everyCall(readme);
        everyTest(readme);
        c.finish("ReadmeTest");
    }

    private static void example(String readme) throws Exception {
        Matcher block = BLOCK.matcher(readme);
        c.due("README.md has a helper", block.find() ? 1 : 0, 1);
        String helper = block.group(1);
        c.due("README.md has an example", block.find() ? 1 : 0, 1);
        String source = sourceOf(helper, block.group(1));
        c.due("the example tells answers", calls.size() > 20 ? 1 : 0, 1);
        long[] answers = answersOf(source);
        c.due("all calls of the example answer", answers.length, calls.size());
        for (int i = 0; i < Math.min(answers.length, calls.size()); i++) {
            c.due("README.md: " + calls.get(i), answers[i], told.get(i));
        }
    }

    private static String sourceOf(String helper, String example) {
        StringBuilder rows = new StringBuilder();
        for (String row : example.split("\n")) {
            Matcher matcher = TOLD.matcher(row);
            if (matcher.matches()) {
                calls.add(matcher.group(1));
                told.add(Long.parseLong(matcher.group(2)));
                rows.append("answers.add((long) ").append(matcher.group(1)).append(");\n");
            } else {
                c.due("a row that is no call tells no answer: " + row, row.contains("//") ? 1 : 0, 0);
                rows.append(row).append('\n');
            }
        }
        return "public final class Example {\n" + helper + "public static long[] answers() {\n"
            + "java.util.List<Long> answers = new java.util.ArrayList<>();\n" + rows
            + "return answers.stream().mapToLong(one -> one).toArray();\n}\n}\n";
    }

    private static long[] answersOf(String source) throws Exception {
        Path room = Files.createTempDirectory("readme");
        Path file = Files.writeString(room.resolve("Example.java"), source);
        String classes = System.getProperty("java.class.path");
        int fault = new ProcessBuilder("javac", "-cp", classes, file.toString()).inheritIO().start().waitFor();
        c.due("the example compiles", fault, 0);
        long[] answers = {};
        if (fault == 0) {
            try (URLClassLoader loader = new URLClassLoader(new URL[] {room.toUri().toURL()})) {
                answers = (long[]) loader.loadClass("Example").getMethod("answers").invoke(null);
            }
        }
        Files.deleteIfExists(room.resolve("Example.class"));
        Files.delete(file);
        Files.delete(room);
        return answers;
    }

    private static void everyCall(String readme) {
        for (var method : PeopleLent.class.getDeclaredMethods()) {
            if (Modifier.isPublic(method.getModifiers())) {
                boolean named = readme.contains("| `" + method.getName() + "(");
                c.due("README.md has a row for " + method.getName(), named ? 1 : 0, 1);
            }
        }
    }

    private static void everyTest(String readme) throws Exception {
        try (Stream<Path> files = Files.list(Path.of("src/test/java"))) {
            for (Path file : files.toList()) {
                String name = file.getFileName().toString().replace(".java", "");
                if (name.endsWith("Test")) {
                    c.due("README.md tells of " + name, readme.contains("`" + name + "`") ? 1 : 0, 1);
                }
            }
        }
        Matcher named = Pattern.compile("`(\\w+Test)`").matcher(readme);
        while (named.find()) {
            boolean stands = Files.exists(Path.of("src/test/java", named.group(1) + ".java"));
            c.due(named.group(1) + ", of which README.md tells, stands", stands ? 1 : 0, 1);
        }
    }
}
