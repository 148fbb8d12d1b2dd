import java.io.IOException;
import java.lang.reflect.Constructor;
import java.lang.reflect.Method;
import java.lang.reflect.Modifier;
import java.net.URL;
import java.net.URLClassLoader;
import java.nio.file.Files;
import java.nio.file.Path;
import java.util.ArrayList;
import java.util.Comparator;
import java.util.List;
import java.util.stream.Stream;
import javax.tools.ToolProvider;

/** Runs the examples of README.md, and compares their answers with those that stand behind them. */
public final class ReadmeTest {
    private static final Path README = Path.of("README.md");
    private static final Path TESTS = Path.of("src/test/java");

    private ReadmeTest() {
    }

    /** The examples of the README, each a list of lines. */
    private static List<List<String>> examples(List<String> lines) {
        List<List<String>> all = new ArrayList<>();
        boolean inside = false;
        for (String line : lines) {
            if (line.startsWith("```")) {
                inside = line.equals("```java");
                if (inside) {
                    all.add(new ArrayList<>());
                }
            } else if (inside) {
                all.get(all.size() - 1).add(line);
            }
        }
        return all;
    }

    private static String quoted(String text) {
        return "\"" + text.replace("\\", "\\\\").replace("\"", "\\\"") + "\"";
    }

    /** A line with an answer behind it as a question, another line as it is. */
    private static String asked(String line) {
        int mark = line.indexOf(";  ");
        int note = line.indexOf("// ");
        if (mark < 0 || note < mark) {
            return line;
        }
        String call = line.substring(0, mark);
        String answer = line.substring(note + 3).split(":")[0].trim();
        boolean truth = answer.equals("true") || answer.equals("false");
        return "Due." + (truth ? answer.equals("true") ? "yes(" : "no(" : "is(") + quoted(call) + ", "
                + (truth ? "" : answer + ", ") + call + ");";
    }

    private static String program(List<List<String>> examples) {
        StringBuilder helps = new StringBuilder();
        StringBuilder run = new StringBuilder();
        for (List<String> example : examples) {
            boolean help = example.get(0).startsWith("static ");
            for (String line : example) {
                (help ? helps : run).append(help ? line : asked(line)).append('\n');
            }
        }
        return "final class Examples implements Runnable {\n" + helps + "public void run() {\n" + run + "}\n}\n";
    }

    private static void runIn(Path room, String program) throws IOException, ReflectiveOperationException {
        Path source = room.resolve("Examples.java");
        Files.writeString(source, program);
        String classes = System.getProperty("java.class.path");
        int exit = ToolProvider.getSystemJavaCompiler().run(null, null, null,
                "-cp", classes, "-d", room.toString(), source.toString());
        Due.is("the examples compile", 0, exit);
        if (exit != 0) {
            return;
        }
        URL[] where = {room.toUri().toURL()};
        try (URLClassLoader loader = new URLClassLoader(where, ReadmeTest.class.getClassLoader())) {
            Constructor<?> made = loader.loadClass("Examples").getDeclaredConstructor();
            made.setAccessible(true);
            ((Runnable) made.newInstance()).run();
        }
    }

    private static void clear(Path room) throws IOException {
        try (Stream<Path> files = Files.walk(room)) {
            for (Path file : files.sorted(Comparator.reverseOrder()).toList()) {
                Files.delete(file);
            }
        }
    }

    private static void namesAll(String readme) throws IOException {
        for (Method method : WolfKnight.class.getDeclaredMethods()) {
            if (Modifier.isPublic(method.getModifiers())) {
                Due.yes("README.md shows " + method.getName(), readme.contains("x." + method.getName() + "("));
            }
        }
        try (Stream<Path> files = Files.list(TESTS)) {
            for (Path file : files.toList()) {
                String name = file.getFileName().toString().replace(".java", "");
                if (name.endsWith("Test")) {
                    Due.yes("README.md tells of " + name, readme.contains("| `" + name + "` |"));
                }
            }
        }
    }

    public static void main(String[] args) throws IOException, ReflectiveOperationException {
        List<List<String>> examples = examples(Files.readAllLines(README));
        Due.yes("there are examples", examples.size() >= 5);
        Path room = Files.createTempDirectory("readme");
        try {
            runIn(room, program(examples));
        } finally {
            clear(room);
        }
        namesAll(Files.readString(README));
        Due.close("ReadmeTest");
    }
}
