import java.io.ByteArrayOutputStream;
import java.io.File;
import java.io.IOException;
import java.io.OutputStream;
import java.io.PrintStream;
import java.lang.reflect.Method;
import java.net.URI;
import java.nio.file.Files;
import java.nio.file.Path;
import java.util.ArrayList;
import java.util.HashMap;
import java.util.List;
import java.util.Map;
import java.util.Set;
import java.util.TreeMap;
import java.util.TreeSet;
import java.util.concurrent.ExecutorService;
import java.util.concurrent.Executors;
import java.util.concurrent.Future;
import java.util.regex.Matcher;
import java.util.regex.Pattern;
import javax.tools.FileObject;
import javax.tools.ForwardingJavaFileManager;
import javax.tools.JavaCompiler;
import javax.tools.JavaFileManager;
import javax.tools.JavaFileObject;
import javax.tools.SimpleJavaFileObject;
import javax.tools.ToolProvider;

/**
 * Breaks the class in some thousand small ways, one at a time, and asks EdgesTest of each: tells the breaks that no
 * sentence's test sees, and the sentences whose tests fail by no break. Takes minutes; .ci/run does not run it.
 */
public final class Breaks {
    private static final String SOURCE = "src/main/java/WolfKnight.java";
    private static final int MILLIS = 20000;

    /** Signs of the source, and what is put in their place. */
    private static final String[][] SIGNS = {{"<", "<=", ">="}, {"<=", "<", ">"}, {">", ">=", "<="}, {">=", ">", "<"},
        {"==", "!="}, {"!=", "=="}, {"&&", "||"}, {"||", "&&"}, {"+", "-"}, {"-", "+"}, {"*", "+"}, {"/", "*"},
        {"%", "/"}, {"&", "|"}, {"|", "&"}, {"<<", ">>>"}, {">>>", "<<"}, {"+=", "-="}, {"-=", "+="}, {"|=", "&="},
        {"&=", "|="}};

    private record Break(int from, int to, String with) {
    }

    private final String source;
    private final List<Break> breaks = new ArrayList<>();
    private final Map<String, byte[]> tests = new HashMap<>();

    private Breaks(String source) {
        this.source = source;
    }

    // ---- the breaks ----

    private void find(String pattern, String... instead) {
        Matcher found = Pattern.compile(pattern, Pattern.MULTILINE).matcher(source);
        while (found.find()) {
            String head = source.substring(source.lastIndexOf('\n', found.start()) + 1, found.start()).strip();
            if (!head.contains("//") && !head.startsWith("*") && !head.startsWith("/*")) {
                for (String with : instead) {
                    breaks.add(new Break(found.start(), found.end(), with.replace("$", found.group())));
                }
            }
        }
    }

    private void findAll() {
        find("(?<![\\w'.])\\d+(?![\\w'.])", "($ + 1)", "($ - 1)");
        find("'.'", "($ + 1)", "($ - 1)");
        find("\\b(NONE|MAN|WOLF|DEAD|WORN|FAR)\\b(?! =)", "($ + 7)");
        find("\\btrue\\b", "false");
        find("\\bfalse\\b", "true");
        find("!(?=[\\w(])", "");
        for (String[] sign : SIGNS) {
            for (int i = 1; i < sign.length; i++) {
                find("(?<= )" + Pattern.quote(sign[0]) + "(?= )", sign[i]);
            }
        }
        find("^ +(?!return|final|private|static|int |long |boolean |break|public|case|for|if)[\\w.\\[\\]]+.*;$", ";");
    }

    // ---- compiling and loading ----

    private static final class Text extends SimpleJavaFileObject {
        private final String text;

        Text(String text) {
            super(URI.create("string:///WolfKnight.java"), Kind.SOURCE);
            this.text = text;
        }

        @Override
        public CharSequence getCharContent(boolean ignored) {
            return text;
        }
    }

    private static final class Made extends SimpleJavaFileObject {
        private final ByteArrayOutputStream bytes = new ByteArrayOutputStream();

        Made(String name) {
            super(URI.create("mem:///" + name + ".class"), Kind.CLASS);
        }

        @Override
        public OutputStream openOutputStream() {
            return bytes;
        }
    }

    private static final class Store extends ForwardingJavaFileManager<JavaFileManager> {
        private final Map<String, Made> made = new HashMap<>();

        Store(JavaFileManager files) {
            super(files);
        }

        @Override
        public JavaFileObject getJavaFileForOutput(Location where, String name, JavaFileObject.Kind kind, FileObject by) {
            Made one = new Made(name);
            made.put(name, one);
            return one;
        }
    }

    private static final class Loader extends ClassLoader {
        private final Map<String, byte[]> classes;

        Loader(Map<String, byte[]> classes) {
            super(ClassLoader.getPlatformClassLoader());
            this.classes = classes;
        }

        @Override
        protected Class<?> findClass(String name) throws ClassNotFoundException {
            byte[] bytes = classes.get(name);
            if (bytes == null) {
                throw new ClassNotFoundException(name);
            }
            return defineClass(name, bytes, 0, bytes.length);
        }
    }

    /** The tests' classes and the broken one; null if it does not compile. */
    private Map<String, byte[]> compiled(String text) throws IOException {
        JavaCompiler compiler = ToolProvider.getSystemJavaCompiler();
        try (Store store = new Store(compiler.getStandardFileManager(null, null, null))) {
            List<String> options = List.of("-proc:none");
            if (!compiler.getTask(null, store, fault -> { }, options, null, List.of(new Text(text))).call()) {
                return null;
            }
            Map<String, byte[]> classes = new HashMap<>(tests);
            store.made.forEach((name, one) -> classes.put(name, one.bytes.toByteArray()));
            return classes;
        }
    }

    private void readTests() throws Exception {
        File folder = new File(Breaks.class.getProtectionDomain().getCodeSource().getLocation().toURI());
        for (File file : folder.listFiles()) {
            if (file.getName().endsWith(".class")) {
                tests.put(file.getName().replace(".class", ""), Files.readAllBytes(file.toPath()));
            }
        }
    }

    // ---- asking ----

    /** The sentences whose tests fail; null if it does not compile or does not end. */
    private Set<String> failing(String text) throws Exception {
        Map<String, byte[]> classes = compiled(text);
        if (classes == null) {
            return null;
        }
        Loader loader = new Loader(classes);
        Set<String> failing = new TreeSet<>();
        Thread asking = new Thread(() -> {
            ask(loader);
            failing.addAll(sentencesOf(loader, "Due", "blamed"));
        });
        asking.setDaemon(true);
        asking.start();
        asking.join(MILLIS);
        return asking.isAlive() ? null : failing;
    }

    private static void ask(Loader loader) {
        try {
            Method ask = loader.loadClass("EdgesTest").getDeclaredMethod("ask");
            ask.setAccessible(true);
            ask.invoke(null);
        } catch (ReflectiveOperationException none) {
            throw new IllegalStateException(none);
        }
    }

    private static Set<String> sentencesOf(Loader loader, String test, String name) {
        Set<String> sentences = new TreeSet<>();
        try {
            Method method = loader.loadClass(test).getDeclaredMethod(name);
            method.setAccessible(true);
            for (Object sentence : (Set<?>) method.invoke(null)) {
                sentences.add((String) sentence);
            }
        } catch (ReflectiveOperationException none) {
            throw new IllegalStateException(none);
        }
        return sentences;
    }

    private String told(Break one) {
        int line = (int) source.substring(0, one.from).chars().filter(c -> c == '\n').count() + 1;
        return "line " + line + ": " + source.substring(one.from, one.to).strip() + " made " + one.with + " in: "
                + source.lines().skip(line - 1).findFirst().orElse("").strip();
    }

    private Set<String> sentences() throws Exception {
        Loader loader = new Loader(compiled(source));
        ask(loader);
        return sentencesOf(loader, "Edge", "sentences");
    }

    /** How many sentences no break made fail. */
    private int run(PrintStream out) throws Exception {
        readTests();
        findAll();
        Map<String, Integer> seen = new TreeMap<>();
        sentences().forEach(sentence -> seen.put(sentence, 0));
        ExecutorService workers = Executors.newFixedThreadPool(Runtime.getRuntime().availableProcessors());
        List<Future<Set<String>>> answers = new ArrayList<>();
        for (Break one : breaks) {
            String text = source.substring(0, one.from) + one.with + source.substring(one.to);
            answers.add(workers.submit(() -> failing(text)));
        }
        int unseen = 0;
        for (int i = 0; i < answers.size(); i++) {
            Set<String> failing = answers.get(i).get();
            if (failing != null) {
                failing.forEach(sentence -> seen.merge(sentence, 1, Integer::sum));
                unseen += failing.isEmpty() ? 1 : 0;
                out.print(failing.isEmpty() ? "not seen, " + told(breaks.get(i)) + "\n" : "");
            }
        }
        workers.shutdownNow();
        seen.forEach((sentence, many) -> out.println(many + " breaks fail at: " + sentence));
        int never = (int) seen.values().stream().filter(many -> many == 0).count();
        out.println(breaks.size() + " breaks, " + unseen + " not seen; " + seen.size() + " sentences, " + never + " never fail");
        return never;
    }

    public static void main(String[] args) throws Exception {
        PrintStream out = System.out;
        System.setOut(new PrintStream(OutputStream.nullOutputStream()));
        int never = new Breaks(Files.readString(Path.of(SOURCE))).run(out);
        out.flush();
        System.exit(never > 0 ? 1 : 0);
    }
}
