import java.io.IOException;
import java.net.URL;
import java.net.URLClassLoader;
import java.nio.file.Files;
import java.nio.file.Path;
import java.util.ArrayList;
import java.util.Comparator;
import java.util.List;
import java.util.regex.Matcher;
import java.util.regex.Pattern;
import java.util.stream.Stream;
import javax.tools.ToolProvider;

/** The example of README.md: it is compiled and run, and each answer that it tells behind a call is looked at. */
public final class ReadmeTest {
    private static final Pattern ANSWERED = Pattern.compile("^(?:int (\\w+) = )?(x\\..+); +// (-?\\d+|true|false): ");

    private final List<String> calls = new ArrayList<>();
    private final List<String> due = new ArrayList<>();

    public static void main(String[] args) throws Exception {
        List<String> lines = Files.readAllLines(Path.of("README.md"));
        int start = lines.indexOf("```java") + 1;
        List<String> example = lines.subList(start, start + lines.subList(start, lines.size()).indexOf("```"));
        new ReadmeTest().check(example);
        Check.finish();
    }

    private void check(List<String> example) throws Exception {
        String program = program(example);
        Check.due("README.md tells answers", due.size() > 20, true);
        Path place = Files.createTempDirectory("readme");
        try {
            List<?> told = run(place, program);
            for (int i = 0; i < due.size(); i++) {
                Check.due("README.md: " + calls.get(i), String.valueOf(told.get(i)), due.get(i));
            }
        } finally {
            remove(place);
        }
    }

    private String program(List<String> example) {
        StringBuilder text = new StringBuilder("public final class Example {\n");
        text.append("public static java.util.List<Object> run() {\nvar told = new java.util.ArrayList<Object>();\n");
        for (String line : example) {
            Matcher answered = ANSWERED.matcher(line);
            if (answered.find()) {
                String name = answered.group(1) == null ? "answer" + due.size() : answered.group(1);
                text.append("var ").append(name).append(" = ").append(answered.group(2)).append(";\n");
                text.append("told.add(").append(name).append(");\n");
                calls.add(answered.group(2));
                due.add(answered.group(3));
            } else {
                Check.due("a call without its answer: " + line, line.matches("x\\..*|.*= x\\..*"), false);
                text.append(line).append('\n');
            }
        }
        return text.append("return told;\n}\n}\n").toString();
    }

    private static List<?> run(Path place, String program) throws Exception {
        Path file = Files.writeString(place.resolve("Example.java"), program);
        String path = System.getProperty("java.class.path");
        int refused = ToolProvider.getSystemJavaCompiler()
                .run(null, null, null, "-cp", path, "-d", place.toString(), file.toString());
        if (refused != 0) {
            throw new IllegalStateException("The example of README.md can not be compiled.");
        }
        try (URLClassLoader loader = new URLClassLoader(new URL[] {place.toUri().toURL()})) {
            return (List<?>) loader.loadClass("Example").getMethod("run").invoke(null);
        }
    }

    private static void remove(Path place) throws IOException {
        try (Stream<Path> all = Files.walk(place)) {
            for (Path each : all.sorted(Comparator.reverseOrder()).toList()) {
                Files.delete(each);
            }
        }
    }
}
