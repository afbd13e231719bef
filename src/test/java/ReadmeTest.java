import java.io.IOException;
import java.lang.reflect.Modifier;
import java.net.URL;
import java.net.URLClassLoader;
import java.nio.file.Files;
import java.nio.file.Path;
import java.util.ArrayList;
import java.util.List;
import java.util.TreeSet;
import java.util.regex.Matcher;
import java.util.regex.Pattern;
import java.util.stream.Stream;
import javax.tools.ToolProvider;

/** What README.md says is so: its calls compile and answer as told, its commands run, its table has every test. */
public final class ReadmeTest {
    private static final Path ROOT = Path.of(System.getProperty("project.root", "."));
    private static final Path TESTS = ROOT.resolve("src/test/java");
    private static final Pattern SHOWN = Pattern.compile("(?:(?:int|long) (\\w+) = )?(.*);\\s+// (-?\\d+)(?::.*)?");

    private static String page;

    public static void main(String[] args) throws IOException, InterruptedException, ReflectiveOperationException {
        page = Files.readString(ROOT.resolve("README.md"));
        Path room = Files.createTempDirectory("readme");
        try {
            calls(room);
            oneTestByHand(room);
        } finally {
            remove(room);
        }
        tableOfTests();
        quotes();
        paths();
        Due.finish();
    }

    private static List<String> found(String pattern, String text) {
        List<String> all = new ArrayList<>();
        for (Matcher m = Pattern.compile(pattern).matcher(text); m.find();) {
            all.add(m.group(1));
        }
        return all;
    }

    // ---- the calls

    /** All blocks are one class: those that begin with "static" its methods, the others one run. */
    private static void calls(Path room) throws IOException, ReflectiveOperationException {
        StringBuilder methods = new StringBuilder();
        StringBuilder run = new StringBuilder();
        List<String> lines = new ArrayList<>();
        List<Long> told = new ArrayList<>();
        for (String block : found("(?s)```java\n(.*?)```", page)) {
            if (block.startsWith("static ")) {
                methods.append(block);
            } else {
                for (String line : block.split("\n")) {
                    run.append(asked(line, lines, told)).append('\n');
                }
            }
        }
        Due.holds("many calls are shown", lines.size() >= 40);
        String text = "public final class Shown {\n" + methods + "public static long[] answers() {\nlong[] shown = new long["
            + lines.size() + "];\n" + run + "return shown;\n}\n}\n";
        long[] answers = answersOf(text, room);
        for (int i = 0; i < answers.length; i++) {
            Due.due("README.md: " + lines.get(i), answers[i], told.get(i));
        }
    }

    private static String asked(String line, List<String> lines, List<Long> told) {
        Matcher shown = SHOWN.matcher(line);
        if (!shown.matches()) {
            Due.holds("README.md tells what it answers: " + line, line.equals("FamilyNames x = new FamilyNames();"));
            return line;
        }
        String answer = "shown[" + lines.size() + "] = ";
        lines.add(line);
        told.add(Long.parseLong(shown.group(3)));
        return shown.group(1) == null ? answer + shown.group(2) + ";" : line + "\n" + answer + shown.group(1) + ";";
    }

    private static long[] answersOf(String text, Path room) throws IOException, ReflectiveOperationException {
        Path file = Files.writeString(room.resolve("Shown.java"), text);
        int exit = ToolProvider.getSystemJavaCompiler().run(null, null, null, "-cp", System.getProperty("java.class.path"),
            "-d", room.toString(), file.toString());
        Due.due("what README.md shows compiles", exit, 0);
        if (exit != 0) {
            return new long[0];
        }
        try (URLClassLoader loader = new URLClassLoader(new URL[] {room.toUri().toURL()})) {
            return (long[]) loader.loadClass("Shown").getMethod("answers").invoke(null);
        }
    }

    // ---- the commands

    /** In a copy, so that nothing is left behind in the checkout. */
    private static void oneTestByHand(Path room) throws IOException, InterruptedException {
        List<String> commands = found("(?m)^ {4}((?:mkdir|java -cp) .*)$", page);
        Due.due("commands for one test", commands.size(), 2);
        for (Path file : filesUnder(ROOT.resolve("src"))) {
            Path copy = room.resolve("copy").resolve(ROOT.relativize(file).toString());
            Files.createDirectories(copy.getParent());
            Files.copy(file, copy);
        }
        Process shell = new ProcessBuilder("sh", "-e", "-c", String.join("\n", commands))
            .directory(room.resolve("copy").toFile()).redirectErrorStream(true).start();
        String printed = new String(shell.getInputStream().readAllBytes());
        Due.due("one test by hand, which printed: " + printed, shell.waitFor(), 0);
        Due.holds("how many were asked, and wrong: " + printed, printed.matches("\\d+ asked, 0 wrong\\s*"));
    }

    private static List<Path> filesUnder(Path folder) throws IOException {
        try (Stream<Path> files = Files.walk(folder)) {
            return files.filter(Files::isRegularFile).toList();
        }
    }

    private static void remove(Path folder) throws IOException {
        try (Stream<Path> all = Files.walk(folder)) {
            for (Path one : all.sorted((a, b) -> b.compareTo(a)).toList()) {
                Files.delete(one);
            }
        }
    }

    // ---- what it names

    private static void tableOfTests() throws IOException {
        TreeSet<String> tests = new TreeSet<>();
        for (Path file : filesUnder(TESTS)) {
            String name = file.getFileName().toString().replace(".java", "");
            if (name.endsWith("Test")) {
                tests.add(name);
            }
        }
        List<String> listed = found("(?m)^\\| `(\\w+)` \\|", page);
        Due.holds("README.md lists the tests " + tests + ", but has " + listed, tests.equals(new TreeSet<>(listed)));
        Due.due("each test once", listed.size(), tests.size());
    }

    private static void quotes() throws IOException {
        StringBuilder sources = new StringBuilder();
        int quoting = 0;
        for (Path file : filesUnder(TESTS)) {
            String source = Files.readString(file);
            boolean quotes = source.matches("(?s).*Due\\.(?:opening|terms|promise)\\(.*");
            sources.append(source);
            quoting += quotes && file.toString().endsWith("Test.java") && !isAboutTests(file) ? 1 : 0;
        }
        Due.due("tests that quote the document", quoting, 8);
        for (String quote : found("`(Due\\.[^`]*)`", page)) {
            Due.holds("a test has " + quote, sources.indexOf(quote) >= 0);
        }
    }

    private static boolean isAboutTests(Path file) {
        return file.endsWith("ReadmeTest.java") || file.endsWith("SentencesTest.java");
    }

    private static void paths() {
        for (String path : found("`((?:\\.\\./|src/|\\.ci/|tools/)[^`]*)`", page)) {
            Due.holds("there is " + path, Files.exists(ROOT.resolve(path)));
        }
        Due.holds(".ci/run can be run", Files.isExecutable(ROOT.resolve(".ci/run")));
        Due.holds("java tools/Mutants.java", page.contains("\n    java tools/Mutants.java\n")
            && Files.exists(ROOT.resolve("tools/Mutants.java")));
        Due.holds("one class of its own, open", Modifier.isPublic(FamilyNames.class.getModifiers())
            && FamilyNames.class.getPackageName().isEmpty());
    }
}
