import java.io.ByteArrayOutputStream;
import java.io.File;
import java.io.IOException;
import java.io.OutputStream;
import java.io.PrintStream;
import java.net.URI;
import java.nio.file.Files;
import java.nio.file.Path;
import java.util.ArrayList;
import java.util.HashMap;
import java.util.LinkedHashMap;
import java.util.List;
import java.util.Map;
import java.util.concurrent.ExecutionException;
import java.util.concurrent.ExecutorService;
import java.util.concurrent.Executors;
import java.util.concurrent.Future;
import java.util.regex.Matcher;
import java.util.regex.Pattern;
import javax.tools.FileObject;
import javax.tools.ForwardingJavaFileManager;
import javax.tools.JavaCompiler;
import javax.tools.JavaFileManager;
import javax.tools.JavaFileObject;
import javax.tools.SimpleJavaFileObject;
import javax.tools.ToolProvider;

/**
 * Breaks the class in one small place after another and tells which breaks none of the tests that
 * quote the document notices: `java tools/Mutants.java` from the project's root, some minutes long.
 * What it lists is either equal in effect (a guard that nothing reaches), or a test that is missing.
 */
public final class Mutants {
    private static final Path CLASS = Path.of("src/main/java/FamilyNames.java");
    private static final String[] TESTS = {"SpellingsTest", "TextTest", "BooksTest", "BearersTest",
        "KinTest", "SheetsTest", "TermsTest", "OpeningTest"};
    private static final int LONGEST_TEST = 20_000;

    /** Signs and what stands in their place, one after another. */
    private static final Map<String, String[]> SIGNS = new LinkedHashMap<>();

    static {
        SIGNS.put("<=", new String[] {"<", "=="});
        SIGNS.put(">=", new String[] {">", "=="});
        SIGNS.put("==", new String[] {"!="});
        SIGNS.put("!=", new String[] {"=="});
        SIGNS.put("<", new String[] {"<=", "!="});
        SIGNS.put(">", new String[] {">=", "!="});
        SIGNS.put("&&", new String[] {"||"});
        SIGNS.put("||", new String[] {"&&"});
        SIGNS.put("<<", new String[] {">>"});
        SIGNS.put(">>", new String[] {"<<"});
        SIGNS.put("+", new String[] {"-"});
        SIGNS.put("-", new String[] {"+"});
        SIGNS.put("*", new String[] {"+", "/"});
        SIGNS.put("/", new String[] {"*"});
        SIGNS.put("%", new String[] {"/"});
        SIGNS.put("|", new String[] {"&", "^"});
        SIGNS.put("&", new String[] {"|", "^"});
        SIGNS.put("+=", new String[] {"-=", "="});
        SIGNS.put("-=", new String[] {"+=", "="});
        SIGNS.put("|=", new String[] {"="});
        SIGNS.put("&=", new String[] {"="});
    }

    private static final Pattern SIGN = Pattern.compile("(?<= )([-+*/%|&<>=!]+)(?= )");
    private static final Pattern NUMBER = Pattern.compile("(?<![\\w.'])(\\d+)(?=L?\\b)");
    private static final Pattern STEP = Pattern.compile("\\+\\+|--");
    private static final Pattern NOT = Pattern.compile("!(?=[\\w(])");
    private static final Pattern TRUTH = Pattern.compile("\\b(?:true|false)\\b");
    private static final Pattern BOUND = Pattern.compile("Math\\.(?:max|min)");
    private static final Pattern IF = Pattern.compile("( *if )\\((.*)\\) \\{");
    private static final Pattern CHOICE = Pattern.compile("(.*(?:return|=) )([^?]*) \\? ([^?]*) : ([^?]*);");
    private static final Pattern STATEMENT =
            Pattern.compile(" +(?!return|this)[\\w.]+(?:\\[.*\\])?(?: [-+|&]?= .*|\\+\\+|--|\\(.*\\))?;");

    private record Break(int line, String text) {
    }

    private Mutants() {
    }

    public static void main(String[] args) throws Exception {
        List<String> source = Files.readAllLines(CLASS);
        Map<String, byte[]> tests = testClasses();
        PrintStream out = System.out;
        System.setOut(new PrintStream(OutputStream.nullOutputStream()));
        if (isNoticed(compiled(source), tests)) {
            out.println("the tests fail as it is: mend that first");
            System.exit(1);
        }
        List<Break> breaks = breaksOf(source);
        List<Break> unnoticed = unnoticed(breaks, source, tests);
        for (Break b : unnoticed) {
            out.println((b.line + 1) + "\n  - " + source.get(b.line).strip() + "\n  + " + b.text.strip());
        }
        out.println(breaks.size() + " breaks, " + unnoticed.size() + " not noticed");
        System.exit(0);
    }

    // ---- the breaks

    private static List<Break> breaksOf(List<String> source) {
        List<Break> breaks = new ArrayList<>();
        for (int i = 0; i < source.size(); i++) {
            String line = source.get(i);
            String bare = line.strip();
            boolean code = !bare.isEmpty() && !bare.startsWith("/") && !bare.startsWith("*");
            // The compiler puts public constants into the tests, where no break would reach them.
            if (code && !line.contains("public static final")) {
                for (String text : broken(line)) {
                    if (!text.equals(line)) {
                        breaks.add(new Break(i, text));
                    }
                }
            }
        }
        return breaks;
    }

    private static List<String> broken(String line) {
        List<String> texts = new ArrayList<>();
        for (Matcher m = SIGN.matcher(line); m.find();) {
            for (String other : SIGNS.getOrDefault(m.group(), new String[0])) {
                texts.add(replaced(line, m, other));
            }
        }
        for (Matcher m = NUMBER.matcher(line); m.find();) {
            int number = Integer.parseInt(m.group(1));
            texts.add(replaced(line, m, "" + (number + 1)));
            texts.add(replaced(line, m, number == 0 ? "(-1)" : "" + (number - 1)));
        }
        swapped(line, STEP, "++", "--", texts);
        swapped(line, TRUTH, "true", "false", texts);
        swapped(line, BOUND, "Math.max", "Math.min", texts);
        swapped(line, NOT, "!", "", texts);
        Matcher condition = IF.matcher(line);
        if (condition.matches()) {
            texts.add(condition.group(1) + "(false && (" + condition.group(2) + ")) {");
            texts.add(condition.group(1) + "(true || (" + condition.group(2) + ")) {");
        }
        Matcher choice = CHOICE.matcher(line);
        if (choice.matches()) {
            texts.add(choice.group(1) + choice.group(3) + ";");
            texts.add(choice.group(1) + choice.group(4) + ";");
        }
        if (STATEMENT.matcher(line).matches()) {
            texts.add("");
        }
        return texts;
    }

    private static void swapped(String line, Pattern what, String one, String other, List<String> texts) {
        for (Matcher m = what.matcher(line); m.find();) {
            texts.add(replaced(line, m, m.group().equals(one) ? other : one));
        }
    }

    private static String replaced(String line, Matcher m, String text) {
        return line.substring(0, m.start()) + text + line.substring(m.end());
    }

    // ---- the tests

    private static List<Break> unnoticed(List<Break> breaks, List<String> source, Map<String, byte[]> tests)
            throws InterruptedException, ExecutionException {
        ExecutorService pool = Executors.newFixedThreadPool(Runtime.getRuntime().availableProcessors());
        List<Future<Boolean>> noticed = new ArrayList<>();
        for (Break b : breaks) {
            noticed.add(pool.submit(() -> {
                List<String> text = new ArrayList<>(source);
                text.set(b.line, b.text);
                Map<String, byte[]> classes = compiled(text);
                // What does not compile can not land.
                return classes == null || isNoticed(classes, tests);
            }));
        }
        List<Break> unnoticed = new ArrayList<>();
        for (int i = 0; i < breaks.size(); i++) {
            if (!noticed.get(i).get()) {
                unnoticed.add(breaks.get(i));
            }
        }
        pool.shutdown();
        return unnoticed;
    }

    private static boolean isNoticed(Map<String, byte[]> classes, Map<String, byte[]> tests)
            throws InterruptedException {
        for (String test : TESTS) {
            Map<String, byte[]> all = new HashMap<>(tests);
            all.putAll(classes);
            if (!passes(test, all)) {
                return true;
            }
        }
        return false;
    }

    @SuppressWarnings({"removal", "deprecation"})
    private static boolean passes(String test, Map<String, byte[]> classes) throws InterruptedException {
        boolean[] passed = {false};
        Thread thread = new Thread(() -> {
            try {
                Class<?> main = new Loader(classes).loadClass(test);
                main.getMethod("main", String[].class).invoke(null, (Object) new String[0]);
                passed[0] = true;
            } catch (ReflectiveOperationException | Error e) {
                passed[0] = false;
            }
        });
        thread.setDaemon(true);
        thread.start();
        thread.join(LONGEST_TEST);
        if (thread.isAlive()) {
            // A break may make a loop that has no end.
            thread.stop();
            return false;
        }
        return passed[0];
    }

    // ---- compiled into the memory alone

    private static Map<String, byte[]> testClasses() throws IOException, InterruptedException {
        Path out = Files.createTempDirectory("mutants");
        List<String> files = new ArrayList<>(List.of("-d", out.toString(), CLASS.toString()));
        for (File f : new File("src/test/java").listFiles()) {
            files.add(f.getPath());
        }
        ToolProvider.getSystemJavaCompiler().run(null, null, null, files.toArray(new String[0]));
        Map<String, byte[]> classes = new HashMap<>();
        for (File f : out.toFile().listFiles()) {
            classes.put(f.getName().replace(".class", ""), Files.readAllBytes(f.toPath()));
            Files.delete(f.toPath());
        }
        Files.delete(out);
        return classes;
    }

    /** The classes of a text, or null if it does not compile. */
    private static Map<String, byte[]> compiled(List<String> text) {
        JavaCompiler compiler = ToolProvider.getSystemJavaCompiler();
        Map<String, Held> made = new HashMap<>();
        JavaFileManager files = new ForwardingJavaFileManager<JavaFileManager>(
                compiler.getStandardFileManager(d -> { }, null, null)) {
            @Override
            public JavaFileObject getJavaFileForOutput(Location where, String name, JavaFileObject.Kind kind,
                    FileObject of) {
                made.put(name, new Held(name, kind, null));
                return made.get(name);
            }
        };
        Held source = new Held("FamilyNames", JavaFileObject.Kind.SOURCE, String.join("\n", text));
        if (!compiler.getTask(null, files, d -> { }, null, null, List.of(source)).call()) {
            return null;
        }
        Map<String, byte[]> classes = new HashMap<>();
        made.forEach((name, held) -> classes.put(name, held.bytes.toByteArray()));
        return classes;
    }

    private static final class Held extends SimpleJavaFileObject {
        private final String text;
        private final ByteArrayOutputStream bytes = new ByteArrayOutputStream();

        Held(String name, Kind kind, String text) {
            super(URI.create("held:///" + name + kind.extension), kind);
            this.text = text;
        }

        @Override
        public CharSequence getCharContent(boolean ignored) {
            return text;
        }

        @Override
        public OutputStream openOutputStream() {
            return bytes;
        }
    }

    /** Each test has a loader of its own, so that what Due counts begins anew. */
    private static final class Loader extends ClassLoader {
        private final Map<String, byte[]> classes;

        Loader(Map<String, byte[]> classes) {
            super(ClassLoader.getPlatformClassLoader());
            this.classes = classes;
        }

        @Override
        protected Class<?> findClass(String name) throws ClassNotFoundException {
            byte[] bytes = classes.get(name);
            if (bytes == null) {
                throw new ClassNotFoundException(name);
            }
            return defineClass(name, bytes, 0, bytes.length);
        }
    }
}
