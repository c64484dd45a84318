import java.io.IOException;
import java.lang.reflect.Method;
import java.lang.reflect.Modifier;
import java.net.URL;
import java.net.URLClassLoader;
import java.nio.file.Files;
import java.nio.file.Path;
import java.util.ArrayList;
import java.util.List;
import java.util.Set;
import java.util.TreeSet;
import java.util.regex.Matcher;
import java.util.regex.Pattern;
import java.util.stream.Stream;
import javax.tools.ToolProvider;

/** README.md: its examples compile as they stand, each call answers as is said behind it, and none is left out. */
public final class ReadmeTest {
    private static final Pattern BLOCK = Pattern.compile("(?ms)^```java\n(.*?)^```$");
    private static final Pattern CALL = Pattern.compile("(yard\\.(\\w+)\\(.*\\));\\s+// (.*)");
    private static final Pattern ANSWER = Pattern.compile(
        "(-?\\d+|NONE|BAD|NOT|FULL|Integer\\.MIN_VALUE|Long\\.MIN_VALUE \\+ \\d)(: .+)?");
    private static int wrong = 0;

    private static void fail(String what) {
        wrong++;
        System.out.println("README.md: " + what);
    }

    private static String asJava(String answer) {
        if (answer.startsWith("Integer") || answer.startsWith("Long")) {
            return answer;
        }
        return Character.isLetter(answer.charAt(0)) ? "GraveOrder." + answer : answer + "L";
    }

    /** A line of an example as it is, but for a call with an answer: that is held against it. */
    private static String checked(String line, Set<String> shown) {
        Matcher call = CALL.matcher(line);
        if (!line.startsWith("yard.")) {
            return line;
        }
        Matcher answer = ANSWER.matcher(call.matches() ? call.group(3) : "");
        if (!answer.matches()) {
            fail("no answer is said behind: " + line);
            return line;
        }
        shown.add(call.group(2));
        return "wrong += due(\"" + call.group(1) + "\", " + call.group(1) + ", " + asJava(answer.group(1)) + ");";
    }

    /** All examples as one method, since they go on from one to the next. */
    private static String program(String readme, Set<String> shown) {
        List<String> lines = new ArrayList<>();
        lines.add("public final class ReadmeExamples {");
        lines.add("static int due(String call, long got, long want) {");
        lines.add("if (got == want) { return 0; }");
        lines.add("System.out.println(\"README.md: \" + call + \" answered \" + got + \", it says \" + want);");
        lines.add("return 1; }");
        lines.add("public static int run() { int wrong = 0;");
        Matcher block = BLOCK.matcher(readme);
        while (block.find()) {
            for (String line : block.group(1).split("\n")) {
                lines.add(checked(line, shown));
            }
        }
        lines.add("return wrong; } }");
        return String.join("\n", lines);
    }

    /** How many answers are not as said; 1 if the examples cannot be asked. */
    private static int wrongAnswers(String program) throws Exception {
        Path dir = Files.createTempDirectory("readme");
        try {
            Path source = dir.resolve("ReadmeExamples.java");
            Files.writeString(source, program);
            int failed = ToolProvider.getSystemJavaCompiler().run(null, System.out, System.out,
                "-cp", System.getProperty("java.class.path"), "-d", dir.toString(), source.toString());
            if (failed != 0) {
                System.out.println("README.md: the examples do not compile");
                return 1;
            }
            URL[] where = {dir.toUri().toURL()};
            try (URLClassLoader loader = new URLClassLoader(where, ReadmeTest.class.getClassLoader())) {
                return (int) loader.loadClass("ReadmeExamples").getMethod("run").invoke(null);
            }
        } finally {
            deleted(dir);
        }
    }

    private static void deleted(Path dir) throws IOException {
        try (Stream<Path> files = Files.list(dir)) {
            for (Path file : files.toList()) {
                Files.delete(file);
            }
        }
        Files.delete(dir);
    }

    private static void eachCallIsShown(Set<String> shown) {
        // The bytes of a line are typed in a loop, which has no answer of its own.
        shown.add("type");
        for (Method m : GraveOrder.class.getDeclaredMethods()) {
            if (Modifier.isPublic(m.getModifiers()) && !shown.contains(m.getName())) {
                fail("no example of " + m.getName());
            }
        }
    }

    private static void eachTestIsNamed(String readme) throws IOException {
        try (Stream<Path> files = Files.list(Path.of("src/test/java"))) {
            for (Path file : files.toList()) {
                String name = file.getFileName().toString().replace(".java", "");
                if (!readme.contains("`" + name + "`")) {
                    fail("says nothing of " + name);
                }
            }
        }
        if (!readme.contains("\n.ci/run\n") || !Files.isExecutable(Path.of(".ci/run"))) {
            fail("does not say how to run the tests, or they cannot be run so");
        }
    }

    public static void main(String[] args) throws Exception {
        String readme = Files.readString(Path.of("README.md"));
        Set<String> shown = new TreeSet<>();
        String program = program(readme, shown);
        eachCallIsShown(shown);
        eachTestIsNamed(readme);
        wrong += wrongAnswers(program);
        System.out.println(wrong == 0 ? "the examples answer as README.md says" : wrong + " faults of README.md");
        if (wrong != 0) {
            System.exit(1);
        }
    }
}
