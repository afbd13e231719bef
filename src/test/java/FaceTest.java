import java.io.IOException;
import java.lang.reflect.Constructor;
import java.lang.reflect.Field;
import java.lang.reflect.Method;
import java.lang.reflect.Modifier;
import java.nio.file.Files;
import java.nio.file.Path;
import java.util.Set;
import java.util.TreeSet;
import java.util.regex.Matcher;
import java.util.regex.Pattern;

/** The public face as the document tells it, and what of LANGUAGE.md a test can see. */
public final class FaceTest {
    private static final String[] METHODS = {
        "int spelling(long)", "long letters(int)", "int feed(long)", "int end(int)", "int rules()", "int fault()",
        "int rule(int)", "long sound(int)", "int sounds(int)", "int apart(int,int)", "int name(int)",
        "int chain(int,int,int)", "int standing(int)", "int place(int,int)", "int book(int,int,int)",
        "int hole(int,int,boolean)", "int bookOf(int,int)", "int line(int,int,int,int)", "int day(int)",
        "int again(int,int)", "int lineOf(int,int)", "int known(int,int)", "int bearers(int,int,int,int,int)",
        "int first(int,int)", "int starts(int,int)", "int judge(int,int)", "int pace(int)", "long dies(int,int)",
        "int father(int,int)", "int kin(int,int)", "int related(int,int)", "int issue(int,int)",
        "int sheet(int,int,int)", "int lay(int,int,int)", "int read(int,int,int)", "int torn()", "int count(int)"};
    private static final String[] FORBIDDEN = {
        "throw", "throws", "try", "catch", "finally", "synchronized", "assert", "double", "float", "native",
        "volatile", "transient", "Object", "hashCode", "toString", "System.out", "Random", "Thread"};
    private static final int MOST_LINES = 60, MOST_PARAMETERS = 7, MOST_FIELDS = 20, MOST_CLASSES = 12;

    public static void main(String[] args) throws IOException {
        face();
        Set<String> open = new TreeSet<>();
        for (String method : METHODS) {
            open.add(method.replaceAll("^\\S+ |\\(.*", ""));
        }
        shape(FamilyNames.class, open);
        for (Class<?> inner : FamilyNames.class.getDeclaredClasses()) {
            Due.holds(inner + " is static", Modifier.isStatic(inner.getModifiers()));
            Due.holds(inner + " is not open", !Modifier.isPublic(inner.getModifiers()) && !Modifier.isProtected(inner.getModifiers()));
            shape(inner, open);
        }
        Due.holds("few classes", FamilyNames.class.getDeclaredClasses().length < MOST_CLASSES);
        source();
        Due.finish();
    }

    private static void face() {
        Set<String> due = new TreeSet<>(Set.of(METHODS));
        Set<String> found = new TreeSet<>();
        for (Method method : FamilyNames.class.getDeclaredMethods()) {
            if (!Modifier.isPrivate(method.getModifiers()) && !method.isSynthetic()) {
                Due.holds(method + " is public and no static one",
                    Modifier.isPublic(method.getModifiers()) && !Modifier.isStatic(method.getModifiers()));
                found.add(method.getReturnType() + " " + method.getName() + parameters(method.getParameterTypes()));
            }
        }
        Due.holds("the methods are those of the document: " + found, found.equals(due));
        Constructor<?>[] constructors = FamilyNames.class.getDeclaredConstructors();
        Due.holds("one public constructor", constructors.length == 1 && Modifier.isPublic(constructors[0].getModifiers())
            && constructors[0].getParameterCount() == 0);
        Set<String> constants = new TreeSet<>();
        for (Field field : FamilyNames.class.getDeclaredFields()) {
            if (!Modifier.isPrivate(field.getModifiers())) {
                constants.add(Modifier.toString(field.getModifiers()) + " " + field.getType() + " " + field.getName());
            }
        }
        Set<String> told = new TreeSet<>();
        for (String name : new String[] {"BAD", "STATE", "FULL", "NONE"}) {
            told.add("public static final int " + name);
        }
        Due.holds("the constants are those of the document: " + constants, constants.equals(told));
        Due.due("BAD", FamilyNames.BAD, -1);
        Due.due("STATE", FamilyNames.STATE, -2);
        Due.due("FULL", FamilyNames.FULL, -3);
        Due.due("NONE", FamilyNames.NONE, -4);
        Due.holds("public and final", Modifier.isPublic(FamilyNames.class.getModifiers())
            && Modifier.isFinal(FamilyNames.class.getModifiers()));
    }

    private static String parameters(Class<?>[] types) {
        StringBuilder text = new StringBuilder("(");
        for (int i = 0; i < types.length; i++) {
            text.append(i == 0 ? "" : ",").append(types[i]);
        }
        return text.append(")").toString();
    }

    private static void shape(Class<?> type, Set<String> open) {
        int fields = 0;
        for (Field field : type.getDeclaredFields()) {
            boolean isStatic = Modifier.isStatic(field.getModifiers());
            Due.holds(field + ": static ones are final", !isStatic || Modifier.isFinal(field.getModifiers()));
            fields += isStatic ? 0 : 1;
        }
        Due.holds(type + " has few fields", fields <= MOST_FIELDS);
        for (Method method : type.getDeclaredMethods()) {
            Due.holds(method + " has few parameters", method.getParameterCount() <= MOST_PARAMETERS);
            Due.holds(method + " has a name of its own",
                type == FamilyNames.class && Modifier.isPublic(method.getModifiers()) || !open.contains(method.getName()));
        }
    }

    private static void source() throws IOException {
        Path file = Path.of(System.getProperty("project.root", "."), "src/main/java/FamilyNames.java");
        String text = Files.readString(file);
        Due.holds("signs 1 to 127 alone", text.chars().allMatch(c -> c > 0 && c < 128));
        String code = text.replaceAll("(?s)/\\*.*?\\*/", "").replaceAll("//[^\n]*", "");
        for (String word : FORBIDDEN) {
            Due.holds("no " + word, !Pattern.compile("\\b" + Pattern.quote(word) + "\\b").matcher(code).find());
        }
        Due.holds("no lambda, no method reference", !code.contains("->") && !code.contains("::"));
        Due.holds("no other import", code.replaceFirst("import java.util.Arrays;", "").indexOf("import") < 0);
        rowsAreMadeInConstructors(code);
        methodsAreShort(text);
    }

    /** Every "new" stands between a constructor's head and its end. */
    private static void rowsAreMadeInConstructors(String code) {
        String name = "";
        boolean inConstructor = false;
        for (String line : code.split("\n")) {
            Matcher type = Pattern.compile("\\bclass (\\w+)").matcher(line);
            name = type.find() ? type.group(1) : name;
            if (line.matches("\\s+(public )?" + (name.isEmpty() ? "-" : name) + "\\(.*\\{")) {
                inConstructor = true;
            } else if (line.matches(" {4}( {4})?}")) {
                inConstructor = false;
            }
            boolean makes = Pattern.compile("\\bnew\\b").matcher(line).find();
            Due.holds("made in a constructor: " + line.trim(), !makes || inConstructor);
        }
    }

    private static void methodsAreShort(String text) {
        String[] lines = text.split("\n");
        int start = -1;
        String indent = "";
        for (int i = 0; i < lines.length; i++) {
            Matcher head = Pattern.compile("^( {4}| {8})(?! )[^=]*\\(.*\\) \\{$").matcher(lines[i]);
            if (start < 0 && head.find()) {
                start = i;
                indent = head.group(1);
            } else if (start >= 0 && lines[i].equals(indent + "}")) {
                Due.holds(lines[start].trim() + " is short", i - start + 1 <= MOST_LINES);
                start = -1;
            }
        }
    }
}
