import java.io.IOException;
import java.net.URL;
import java.net.URLClassLoader;
import java.nio.file.Files;
import java.nio.file.Path;
import java.util.ArrayList;
import java.util.List;
import java.util.regex.Matcher;
import java.util.regex.Pattern;
import javax.tools.ToolProvider;

/** Runs the examples of README.md: a call with a value behind it in a comment answers that value. */
public final class ReadmeTest {
    private static final Pattern TOLD =
            Pattern.compile("(?:\\w+ (\\w+) = )?(net\\..*);\\s+// (true|false|-?\\d+)\\b.*");

    private ReadmeTest() {
    }

    public static void main(String[] args) throws Exception {
        List<String> calls = new ArrayList<>();
        List<String> due = new ArrayList<>();
        String program = program(exampleLines(), calls, due);
        List<?> got = answers(program);
        Check.is(true, "README.md tells answers", due.size() > 0);
        for (int i = 0; i < due.size(); i++) {
            Check.is(due.get(i), "README.md: " + calls.get(i), got.get(i));
        }
        Check.end("ReadmeTest");
    }

    private static List<String> exampleLines() throws IOException {
        List<String> lines = new ArrayList<>();
        boolean inside = false;
        for (String line : Files.readAllLines(Path.of("README.md"))) {
            if (line.startsWith("```")) {
                inside = line.equals("```java");
            } else if (inside) {
                lines.add(line);
            }
        }
        return lines;
    }

    private static String program(List<String> lines, List<String> calls, List<String> due) {
        StringBuilder out = new StringBuilder("public final class ReadmeExample {\n"
                + "public static java.util.List<String> answers() {\n"
                + "java.util.List<String> got = new java.util.ArrayList<>();\n");
        for (String line : lines) {
            Matcher told = TOLD.matcher(line);
            if (!told.matches()) {
                out.append(line).append('\n');
                continue;
            }
            calls.add(told.group(2));
            due.add(told.group(3));
            String answer = told.group(2);
            if (told.group(1) != null) {
                out.append(line).append('\n');
                answer = told.group(1);
            }
            out.append("got.add(String.valueOf(").append(answer).append("));\n");
        }
        return out.append("return got;\n}\n}\n").toString();
    }

    private static List<?> answers(String program) throws Exception {
        Path place = Files.createTempDirectory("readme");
        Path source = place.resolve("ReadmeExample.java");
        Path compiled = place.resolve("ReadmeExample.class");
        try {
            Files.writeString(source, program);
            int failed = ToolProvider.getSystemJavaCompiler().run(null, null, null, "-d",
                    place.toString(), "-cp", System.getProperty("java.class.path"),
                    source.toString());
            Check.is(0, "compiling the examples of README.md", failed);
            try (URLClassLoader loader = new URLClassLoader(new URL[] {place.toUri().toURL()})) {
                return (List<?>) loader.loadClass("ReadmeExample").getMethod("answers").invoke(null);
            }
        } finally {
            Files.deleteIfExists(source);
            Files.deleteIfExists(compiled);
            Files.deleteIfExists(place);
        }
    }
}
