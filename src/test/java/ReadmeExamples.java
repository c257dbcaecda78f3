import java.io.IOException;
import java.lang.reflect.InvocationTargetException;
import java.net.URL;
import java.net.URLClassLoader;
import java.nio.file.Files;
import java.nio.file.Path;
import java.util.Comparator;
import java.util.List;
import java.util.regex.Matcher;
import java.util.regex.Pattern;
import java.util.stream.Stream;
import javax.tools.ToolProvider;

/** The lines of Java in README.md, compiled and asked: what stands behind '//' is the answer that is due. */
public final class ReadmeExamples {
    private static final Path README = Path.of("README.md");
    private static final Pattern ANSWERED =
        Pattern.compile("\\s*(?:int (\\w+) = )?(map\\.\\w+\\(.*\\));\\s*// (-?\\d+): .*");
    private static final int FEWEST_ANSWERS = 20;

    private static int answers = 0;
    private static int wrong = 0;

    /** Called by the lines that are compiled, from another class loader: thus public. */
    public static void due(String line, int want, int got) {
        answers++;
        if (want != got) {
            wrong++;
            System.out.println(line + " answered " + got + ", due is " + want);
        }
    }

    /** A call whose answer is told is looked at; every other line stays as it is. */
    private static String asProgram(String line) {
        Matcher m = ANSWERED.matcher(line);
        if (!m.matches()) {
            return line;
        }
        String call = m.group(2);
        String shown = '"' + call.replace("\"", "\\\"") + '"';
        if (m.group(1) == null) {
            return "ReadmeExamples.due(" + shown + ", " + m.group(3) + ", " + call + ");";
        }
        return "int " + m.group(1) + " = " + call + "; "
            + "ReadmeExamples.due(" + shown + ", " + m.group(3) + ", " + m.group(1) + ");";
    }

    private static String program(List<String> page) {
        StringBuilder code = new StringBuilder("public final class Examples {\n");
        code.append("    public static void main(String[] args) {\n");
        boolean isJava = false;
        for (String line : page) {
            if (line.startsWith("```")) {
                isJava = line.equals("```java");
            } else if (isJava) {
                code.append(asProgram(line)).append('\n');
            }
        }
        return code.append("    }\n}\n").toString();
    }

    private static void compileAndRun(String code, Path directory) throws IOException, ReflectiveOperationException {
        Path source = directory.resolve("Examples.java");
        Files.writeString(source, code);
        String classes = System.getProperty("java.class.path");
        int failed = ToolProvider.getSystemJavaCompiler().run(
            null, null, null, "-cp", classes, "-d", directory.toString(), source.toString());
        if (failed != 0) {
            wrong++;
            return;
        }
        try (URLClassLoader loader = new URLClassLoader(new URL[] {directory.toUri().toURL()})) {
            loader.loadClass("Examples").getMethod("main", String[].class).invoke(null, (Object) new String[0]);
        } catch (InvocationTargetException thrown) {
            wrong++;
            System.out.println("the lines threw " + thrown.getCause());
        }
    }

    private static void remove(Path directory) throws IOException {
        try (Stream<Path> all = Files.walk(directory)) {
            for (Path path : all.sorted(Comparator.reverseOrder()).toList()) {
                Files.delete(path);
            }
        }
    }

    public static void main(String[] args) throws IOException, ReflectiveOperationException {
        Path directory = Files.createTempDirectory("readme");
        try {
            compileAndRun(program(Files.readAllLines(README)), directory);
        } finally {
            remove(directory);
        }
        System.out.println(answers + " answers of README.md looked at, " + wrong + " not as due");
        // A page whose lines are not found would prove nothing.
        if (wrong != 0 || answers < FEWEST_ANSWERS) {
            System.exit(1);
        }
    }
}
