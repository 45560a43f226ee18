import java.io.File;
import java.io.IOException;
import java.lang.reflect.Method;
import java.lang.reflect.Modifier;
import java.net.URL;
import java.net.URLClassLoader;
import java.nio.file.Files;
import java.nio.file.Path;
import java.util.ArrayList;
import java.util.List;
import java.util.TreeSet;
import java.util.regex.Matcher;
import java.util.regex.Pattern;
import javax.tools.JavaCompiler;
import javax.tools.ToolProvider;

/** What README.md shows of the use of the class: each line that has an answer in its comment is run. */
public final class ReadmeTest {
    private static final Pattern BLOCK = Pattern.compile("(?s)```java\\n(.*?)```");
    private static final Pattern SHOWN = Pattern.compile("(\\S.*);\\s+// (-?\\d+|\"[^\"]*\")(: .+)?");
    private static final String NEW_OBJECT = "BranchMender mender = new BranchMender();";

    private ReadmeTest() {
    }

    public static void main(String[] args) throws Exception {
        String readme = Files.readString(Path.of("README.md"));
        String source = shownSource(readme);
        showsEveryCall(source);
        namesEveryTest(readme);
        run(source);
        Bench.end("README");
    }

    /** Blocks of helpers as they stand; the other ones as a method each, with their answers asked for. */
    private static String shownSource(String readme) {
        StringBuilder members = new StringBuilder();
        Matcher block = BLOCK.matcher(readme);
        int examples = 0;
        while (block.find()) {
            if (block.group(1).startsWith("static ")) {
                members.append(block.group(1));
            } else {
                members.append("public static void example").append(examples++).append("() {\n");
                members.append(example(block.group(1))).append("}\n");
            }
        }
        Bench.due("README.md shows examples", examples > 0, true);
        return "public final class Shown {\n" + members
            + "public static final java.util.List<Object[]> ANSWERS = new java.util.ArrayList<>();\n"
            + "static void due(Object... answer) {\nANSWERS.add(answer);\n}\n}\n";
    }

    private static String example(String lines) {
        StringBuilder body = new StringBuilder();
        for (String line : lines.split("\n")) {
            Matcher shown = SHOWN.matcher(line);
            if (line.equals(NEW_OBJECT)) {
                body.append(line).append('\n');
            } else if (shown.matches()) {
                String call = shown.group(1);
                String words = "\"README.md: " + call.replace("\"", "\\\"") + "\"";
                body.append("due(").append(words).append(", ").append(call).append(", ").append(shown.group(2)).append(");\n");
            } else {
                Bench.due("README.md shows " + line, "no answer", "an answer");
            }
        }
        return body.toString();
    }

    private static void showsEveryCall(String source) {
        for (Method method : BranchMender.class.getDeclaredMethods()) {
            if (Modifier.isPublic(method.getModifiers())) {
                boolean shown = source.contains("mender." + method.getName() + "(");
                Bench.due("README.md shows " + method.getName(), shown, true);
            }
        }
    }

    private static void namesEveryTest(String readme) {
        TreeSet<String> told = new TreeSet<>();
        Matcher row = Pattern.compile("(?m)^\\| `(\\w+)` \\|").matcher(readme);
        while (row.find()) {
            told.add(row.group(1) + ".java");
        }
        TreeSet<String> there = new TreeSet<>();
        String[] files = new File("src/test/java").list();
        for (String file : files == null ? new String[0] : files) {
            if (file.endsWith("Test.java")) {
                there.add(file);
            }
        }
        Bench.due("tests that README.md names", told, there);
    }

    private static void run(String source) throws Exception {
        Path work = Files.createTempDirectory("shown");
        try {
            Path file = work.resolve("Shown.java");
            Files.writeString(file, source);
            JavaCompiler compiler = ToolProvider.getSystemJavaCompiler();
            String classes = System.getProperty("java.class.path");
            int exit = compiler == null ? -1
                : compiler.run(null, null, null, "-cp", classes, "-d", work.toString(), file.toString());
            Bench.due("javac of what README.md shows", exit, 0);
            if (exit == 0) {
                runExamples(work);
            }
        } finally {
            remove(work);
        }
    }

    private static void runExamples(Path work) throws Exception {
        URL[] places = {work.toUri().toURL()};
        try (URLClassLoader loader = new URLClassLoader(places, ReadmeTest.class.getClassLoader())) {
            Class<?> shown = loader.loadClass("Shown");
            for (Method method : shown.getMethods()) {
                if (method.getName().startsWith("example")) {
                    method.invoke(null);
                }
            }
            for (Object answer : (List<?>) shown.getField("ANSWERS").get(null)) {
                Object[] parts = (Object[]) answer;
                Bench.due(String.valueOf(parts[0]), parts[1], parts[2]);
            }
        }
    }

    private static void remove(Path work) throws IOException {
        List<Path> files = new ArrayList<>();
        try (java.util.stream.Stream<Path> found = Files.walk(work)) {
            found.forEach(files::add);
        }
        for (int k = files.size() - 1; k >= 0; k--) {
            Files.deleteIfExists(files.get(k));
        }
    }
}
