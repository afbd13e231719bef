import java.io.IOException;
import java.lang.reflect.Constructor;
import java.lang.reflect.Field;
import java.lang.reflect.Method;
import java.lang.reflect.Modifier;
import java.nio.file.Files;
import java.nio.file.Path;
import java.util.ArrayList;
import java.util.List;
import java.util.Set;
import java.util.TreeSet;
import java.util.regex.Matcher;
import java.util.regex.Pattern;

/** The public face as the document tells it, and what of LANGUAGE.md a test can see. */
public final class FaceTest {
    private static final String[] METHODS = {
        "int spelling(long)", "long letters(int)", "int feed(long)", "int end(int)", "int rules()", "int fault()",
        "int rule(int)", "long sound(int)", "int sounds(int)", "int apart(int,int)", "int name(int)",
        "int chain(int,int,int)", "int standing(int)", "int place(int,int)", "int book(int,int,int)",
        "int hole(int,int,boolean)", "int bookOf(int,int)", "int line(int,int,int,int)", "int day(int)",
        "int again(int,int)", "int lineOf(int,int)", "int known(int,int)", "int bearers(int,int,int,int,int)",
        "int first(int,int)", "int starts(int,int)", "int judge(int,int)", "int pace(int)", "long dies(int,int)",
        "int father(int,int)", "int kin(int,int)", "int related(int,int)", "int issue(int,int)",
        "int sheet(int,int,int)", "int lay(int,int,int)", "int read(int,int,int)", "int torn()", "int count(int)"};
    private static final String[] FORBIDDEN = {
        "throw", "throws", "try", "catch", "finally", "synchronized", "assert", "double", "float", "native",
        "volatile", "transient", "Object", "hashCode", "toString", "System.out", "Random", "Thread"};
    /** Of the library that LANGUAGE.md lists, what the class has use for; what is new here is looked up there first. */
    private static final Set<String> LIBRARY = Set.of("Arrays.fill", "System.arraycopy", "Integer.bitCount",
        "Integer.numberOfTrailingZeros", "Long.bitCount", "Math.abs", "Math.max", "Math.min");
    private static final int MOST_LINES = 60, MOST_PARAMETERS = 7, MOST_FIELDS = 20, MOST_CLASSES = 12;

    public static void main(String[] args) throws IOException {
        face();
        Set<String> open = new TreeSet<>();
        for (String method : METHODS) {
            open.add(method.replaceAll("^\\S+ |\\(.*", ""));
        }
        shape(FamilyNames.class, open);
        for (Class<?> inner : FamilyNames.class.getDeclaredClasses()) {
            Due.holds(inner + " is static", Modifier.isStatic(inner.getModifiers()));
            Due.holds(inner + " is not open", !Modifier.isPublic(inner.getModifiers()) && !Modifier.isProtected(inner.getModifiers()));
            shape(inner, open);
        }
        Due.holds("few classes", FamilyNames.class.getDeclaredClasses().length < MOST_CLASSES);
        source();
        document();
        Due.finish();
    }

    private static void face() {
        Set<String> due = new TreeSet<>(Set.of(METHODS));
        Set<String> found = new TreeSet<>();
        for (Method method : FamilyNames.class.getDeclaredMethods()) {
            if (!Modifier.isPrivate(method.getModifiers()) && !method.isSynthetic()) {
                Due.holds(method + " is public and no static one",
                    Modifier.isPublic(method.getModifiers()) && !Modifier.isStatic(method.getModifiers()));
                found.add(method.getReturnType() + " " + method.getName() + parameters(method.getParameterTypes()));
            }
        }
        Due.holds("the methods are those of the document: " + found, found.equals(due));
        Constructor<?>[] constructors = FamilyNames.class.getDeclaredConstructors();
        Due.holds("one public constructor", constructors.length == 1 && Modifier.isPublic(constructors[0].getModifiers())
            && constructors[0].getParameterCount() == 0);
        Set<String> constants = new TreeSet<>();
        for (Field field : FamilyNames.class.getDeclaredFields()) {
            if (!Modifier.isPrivate(field.getModifiers())) {
                constants.add(Modifier.toString(field.getModifiers()) + " " + field.getType() + " " + field.getName());
            }
        }
        Set<String> told = new TreeSet<>();
        for (String name : new String[] {"BAD", "STATE", "FULL", "NONE"}) {
            told.add("public static final int " + name);
        }
        Due.holds("the constants are those of the document: " + constants, constants.equals(told));
        Due.due("BAD", FamilyNames.BAD, -1);
        Due.due("STATE", FamilyNames.STATE, -2);
        Due.due("FULL", FamilyNames.FULL, -3);
        Due.due("NONE", FamilyNames.NONE, -4);
        Due.holds("public and final", Modifier.isPublic(FamilyNames.class.getModifiers())
            && Modifier.isFinal(FamilyNames.class.getModifiers()));
    }

    private static String parameters(Class<?>[] types) {
        StringBuilder text = new StringBuilder("(");
        for (int i = 0; i < types.length; i++) {
            text.append(i == 0 ? "" : ",").append(types[i]);
        }
        return text.append(")").toString();
    }

    private static void shape(Class<?> type, Set<String> open) {
        int fields = 0;
        for (Field field : type.getDeclaredFields()) {
            boolean isStatic = Modifier.isStatic(field.getModifiers());
            Due.holds(field + ": static ones are final", !isStatic || Modifier.isFinal(field.getModifiers()));
            fields += isStatic ? 0 : 1;
        }
        Due.holds(type + " has few fields", fields <= MOST_FIELDS);
        for (Method method : type.getDeclaredMethods()) {
            Due.holds(method + " has few parameters", method.getParameterCount() <= MOST_PARAMETERS);
            Due.holds(method + " has a name of its own",
                type == FamilyNames.class && Modifier.isPublic(method.getModifiers()) || !open.contains(method.getName()));
        }
    }

    private static void source() throws IOException {
        Path file = Path.of(System.getProperty("project.root", "."), "src/main/java/FamilyNames.java");
        String text = Files.readString(file);
        Due.holds("signs 1 to 127 alone", text.chars().allMatch(c -> c > 0 && c < 128));
        String code = text.replaceAll("(?s)/\\*.*?\\*/", "").replaceAll("//[^\n]*", "");
        for (String word : FORBIDDEN) {
            Due.holds("no " + word, !Pattern.compile("\\b" + Pattern.quote(word) + "\\b").matcher(code).find());
        }
        Due.holds("no lambda, no method reference", !code.contains("->") && !code.contains("::"));
        Due.holds("no other import", code.replaceFirst("import java.util.Arrays;", "").indexOf("import") < 0);
        for (String used : found("\\b((?:Arrays|System|Integer|Long|Math|Character|String|List)\\.\\w+)", code.replaceFirst("import .*", ""))) {
            Due.holds("the library's " + used, LIBRARY.contains(used));
        }
        rowsAreMadeInConstructors(code);
        methodsAreShort(text);
    }

    /** The face of the class, line by line, is that of the document, and so are the heads within it. */
    private static void document() throws IOException {
        Path root = Path.of(System.getProperty("project.root", "."));
        Path file = root.resolve("../shared/DOC.md");
        if (!Files.exists(file)) {
            System.out.println("there is no document beside this checkout: its face is not looked at");
            return;
        }
        String document = Files.readString(file);
        String source = Files.readString(root.resolve("src/main/java/FamilyNames.java"));
        List<String> told = found("(?m)^ *(public [^{};]*?)(?: \\{|;)$", faceOf(document));
        Due.due("class, constants, constructor, methods", told.size(), 3 + METHODS.length);
        same("the face", found("(?m)^(?: {4})?(public [^{};]*?)(?: \\{|;)$", source), told);
        same("the promises' heads", found("(?m)^`([^`]*)`:", document), heads(told));
        sections(document, source);
    }

    private static String faceOf(String document) {
        Matcher block = Pattern.compile("(?s)## The public face\\s+```java\n(.*?)```").matcher(document);
        return block.find() ? block.group(1) : "";
    }

    /** Promise 1 is the constructor, the others are the methods in their order. */
    private static List<String> heads(List<String> told) {
        List<String> heads = new ArrayList<>();
        for (String line : told) {
            if (line.endsWith(")")) {
                heads.add(line.replaceFirst("^public ", ""));
            }
        }
        return heads;
    }

    /** "Ahead of the calls .. the interface says: ..": a head, and behind it those calls. */
    private static void sections(String document, String source) {
        List<String> told = new ArrayList<>();
        Matcher ahead = Pattern.compile("(?m)^Ahead of the calls (.*) the interface says: (.*)\\.$").matcher(document);
        while (ahead.find()) {
            told.add(ahead.group(2));
            told.addAll(found("`(\\w+)`", ahead.group(1)));
        }
        Due.due("heads and calls", told.size(), 5 + METHODS.length);
        List<String> stand = found("(?m)^ {4}(?:// (?=----)|public \\w+ (?=\\w+\\())(---- .*|\\w+)", source);
        same("heads and calls", stand, told);
    }

    private static List<String> found(String pattern, String text) {
        List<String> all = new ArrayList<>();
        for (Matcher m = Pattern.compile(pattern).matcher(text); m.find();) {
            all.add(m.group(1));
        }
        return all;
    }

    private static void same(String what, List<String> got, List<String> want) {
        Due.due(what + ": how many", got.size(), want.size());
        for (int i = 0; i < Math.min(got.size(), want.size()); i++) {
            Due.holds(what + ": '" + got.get(i) + "', the document has '" + want.get(i) + "'", got.get(i).equals(want.get(i)));
        }
    }

    /** Every "new" stands between a constructor's head and its end. */
    private static void rowsAreMadeInConstructors(String code) {
        String name = "";
        boolean inConstructor = false;
        for (String line : code.split("\n")) {
            Matcher type = Pattern.compile("\\bclass (\\w+)").matcher(line);
            name = type.find() ? type.group(1) : name;
            if (line.matches("\\s+(public )?" + (name.isEmpty() ? "-" : name) + "\\(.*\\{")) {
                inConstructor = true;
            } else if (line.matches(" {4}( {4})?}")) {
                inConstructor = false;
            }
            boolean makes = Pattern.compile("\\bnew\\b").matcher(line).find();
            Due.holds("made in a constructor: " + line.trim(), !makes || inConstructor);
        }
    }

    private static void methodsAreShort(String text) {
        String[] lines = text.split("\n");
        int start = -1;
        String indent = "";
        for (int i = 0; i < lines.length; i++) {
            Matcher head = Pattern.compile("^( {4}| {8})(?! )[^=]*\\(.*\\) \\{$").matcher(lines[i]);
            if (start < 0 && head.find()) {
                start = i;
                indent = head.group(1);
            } else if (start >= 0 && lines[i].equals(indent + "}")) {
                Due.holds(lines[start].trim() + " is short", i - start + 1 <= MOST_LINES);
                start = -1;
            }
        }
    }
}
