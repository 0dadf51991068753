import java.io.IOException;
import java.net.URL;
import java.net.URLClassLoader;
import java.nio.file.Files;
import java.nio.file.Path;
import java.util.ArrayList;
import java.util.List;
import java.util.regex.Matcher;
import java.util.regex.Pattern;
import java.util.stream.Stream;
import javax.tools.ToolProvider;

/** The calls in README.md answer what is said behind them; run it in the project's folder. */
public final class ReadmeTest {
    private static final Pattern BLOCK = Pattern.compile("(?s)```java\n(.*?)```");
    private static final Pattern CALL = Pattern.compile("(?:int (\\w+) = )?([^=]+); +// (-?\\d+): .*");

    private static final List<String> asked = new ArrayList<>();
    private static final List<String> due = new ArrayList<>();

    public static void main(String[] args) throws IOException, ReflectiveOperationException {
        String program = program(Files.readString(Path.of("README.md")));
        Check.compare("README.md shows calls", "true", String.valueOf(asked.size() > 0));
        Path folder = Files.createTempDirectory("readme");
        try {
            compareAnswers(run(folder, program));
        } finally {
            empty(folder);
        }
        Check.end();
    }

    /** The blocks of README.md as one program, which returns the answers of its calls. */
    private static String program(String readme) {
        StringBuilder lines = new StringBuilder();
        Matcher block = BLOCK.matcher(readme);
        while (block.find()) {
            block.group(1).lines().forEach(line -> lines.append(keepingAnswer(line)).append('\n'));
        }
        return "public final class Readme {\npublic static String run() {\nStringBuilder answers = new StringBuilder();\n"
            + lines + "return answers.toString();\n}\n}\n";
    }

    private static String keepingAnswer(String line) {
        Matcher call = CALL.matcher(line);
        if (!call.matches()) {
            return line;
        }
        asked.add(call.group(2));
        due.add(call.group(3));
        String name = call.group(1) == null ? "answer" + due.size() : call.group(1);
        return "int " + name + " = " + call.group(2) + "; answers.append(" + name + ").append('\\n');";
    }

    private static String run(Path folder, String program) throws IOException, ReflectiveOperationException {
        Path source = folder.resolve("Readme.java");
        Files.writeString(source, program);
        String path = System.getProperty("java.class.path");
        int failed = ToolProvider.getSystemJavaCompiler().run(
            null, null, null, "-cp", path, "-d", folder.toString(), source.toString());
        if (failed != 0) {
            return "";
        }
        URL[] places = {folder.toUri().toURL()};
        try (URLClassLoader loader = new URLClassLoader(places, ReadmeTest.class.getClassLoader())) {
            return (String) loader.loadClass("Readme").getMethod("run").invoke(null);
        }
    }

    private static void compareAnswers(String answers) {
        List<String> got = answers.lines().toList();
        for (int i = 0; i < due.size(); i++) {
            Check.compare(asked.get(i), due.get(i), i < got.size() ? got.get(i) : "nothing");
        }
    }

    private static void empty(Path folder) throws IOException {
        try (Stream<Path> files = Files.list(folder)) {
            for (Path file : files.toList()) {
                Files.delete(file);
            }
        }
        Files.delete(folder);
    }
}
