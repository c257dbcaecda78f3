import java.io.IOException;
import java.lang.reflect.Constructor;
import java.lang.reflect.Field;
import java.lang.reflect.Method;
import java.lang.reflect.Modifier;
import java.nio.file.Files;
import java.nio.file.Path;
import java.util.Arrays;
import java.util.List;
import java.util.Set;
import java.util.TreeSet;
import java.util.regex.Matcher;
import java.util.regex.Pattern;

/** The rules of ../shared/LANGUAGE.md that can be seen from the source and the class files. */
public final class LanguageRules {
    private static final Path SOURCE = Path.of("src/main/java/BorderPaints.java");

    private static final Set<String> FACE = Set.of(
        "addCountry(int,int)", "paint(int,int)", "allow(int,int)", "fix(int,boolean)", "forbid(int,int,boolean)",
        "setBorder(int,int,int)", "readBorders()", "join(int,int)", "give(int,int,int,int)", "repaint()",
        "exchange(int,int)", "type(char)", "clearText()", "undo()", "keep()", "restore()", "country(int,int)",
        "border(int,int)", "borderAt(int)", "forbidden(int,int)", "leastRepaint(int)", "repainted(int)",
        "wouldCost(int,int)", "repaints()", "freedom(int)", "fewestColours()", "chain(int,int)", "count(int)");

    private static final Set<String> CONSTANTS = Set.of("UNKNOWN", "BAD_VALUE", "FULL", "NOT_POSSIBLE", "NONE");

    private static final List<String> RULED_OUT = List.of(
        "throw", "throws", "try", "catch", "finally", "synchronized", "assert", "import", "package", "->", "::",
        "volatile", "native", "Object", "Thread", "Random", "nanoTime", "currentTimeMillis", "exit", "out", "err",
        "getClass", "hashCode", "toString", "equals", "Exact", "float", "double");

    private static int wrong = 0;

    private static void rule(int number, boolean kept, String what) {
        if (!kept) {
            wrong++;
            System.out.println("rule " + number + ": " + what);
        }
    }

    private static String signature(Method m) {
        StringBuilder s = new StringBuilder(m.getName()).append('(');
        for (Class<?> type : m.getParameterTypes()) {
            s.append(s.charAt(s.length() - 1) == '(' ? "" : ",").append(type.getName());
        }
        return s.append(')').toString();
    }

    private static void face(Class<?> c) {
        rule(1, Modifier.isPublic(c.getModifiers()) && Modifier.isFinal(c.getModifiers()), "public and final");
        Set<String> shown = new TreeSet<>();
        for (Method m : c.getDeclaredMethods()) {
            if (!Modifier.isPrivate(m.getModifiers()) && !m.isSynthetic()) {
                shown.add(signature(m));
                rule(1, Modifier.isPublic(m.getModifiers()) && m.getReturnType() == int.class, "face: " + m);
            } else {
                rule(1, !isFaceName(m.getName()), "a private method with a public one's name: " + m);
            }
        }
        rule(1, shown.equals(new TreeSet<>(FACE)), "the methods shown are " + shown);
        Constructor<?>[] made = c.getDeclaredConstructors();
        rule(1, made.length == 1 && Modifier.isPublic(made[0].getModifiers()) && made[0].getParameterCount() == 0,
            "the constructors are " + Arrays.toString(made));
        for (Field f : c.getDeclaredFields()) {
            rule(1, Modifier.isPrivate(f.getModifiers()) || CONSTANTS.contains(f.getName()), "shown: " + f);
        }
    }

    private static boolean isFaceName(String name) {
        for (String signature : FACE) {
            if (signature.startsWith(name + "(")) {
                return true;
            }
        }
        return false;
    }

    private static void inside(Class<?> c) {
        int fields = 0;
        for (Field f : c.getDeclaredFields()) {
            boolean isStatic = Modifier.isStatic(f.getModifiers());
            rule(5, !isStatic || Modifier.isFinal(f.getModifiers()), "static and not final: " + f);
            fields += isStatic ? 0 : 1;
        }
        rule(11, fields <= 20, c + " has " + fields + " fields");
        for (Method m : c.getDeclaredMethods()) {
            rule(11, m.getParameterCount() <= 7, "parameters: " + m);
        }
        if (c != BorderPaints.class) {
            rule(2, Modifier.isStatic(c.getModifiers()) && !Modifier.isPublic(c.getModifiers()), "inside: " + c);
            for (Method m : c.getDeclaredMethods()) {
                rule(1, !isFaceName(m.getName()), "bears the name of a public method: " + m);
            }
        }
    }

    private static String withoutTexts(String source) {
        return source
            .replaceAll("(?s)/\\*.*?\\*/", "")
            .replaceAll("//[^\n]*", "")
            .replaceAll("'[^'\n]'", "' '");
    }

    private static void source(String whole) {
        rule(5, whole.chars().allMatch(c -> c == '\n' || c >= 32 && c < 127), "a sign outside 32 to 126");
        String code = withoutTexts(whole);
        for (String word : RULED_OUT) {
            String edge = Character.isLetter(word.charAt(0)) ? "\\b" : "";
            Matcher m = Pattern.compile(edge + Pattern.quote(word) + edge).matcher(code);
            rule(6, !m.find(), "the source has '" + word + "'");
        }
        rule(10, !code.contains("\""), "a text, where the class needs none");
        int begin = 0;
        String[] lines = whole.split("\n");
        for (int i = 0; i < lines.length; i++) {
            if (lines[i].matches(" {4}( {4})?(public|private|static|int|boolean|void|State|History).*\\) \\{")) {
                begin = i;
            }
            if (lines[i].matches(" {4}( {4})?\\}")) {
                rule(11, i - begin < 60, "a method of over 60 lines ends at line " + (i + 1));
                begin = i;
            }
        }
    }

    public static void main(String[] args) throws IOException {
        face(BorderPaints.class);
        inside(BorderPaints.class);
        Class<?>[] classes = BorderPaints.class.getDeclaredClasses();
        rule(11, classes.length < 12, "there are " + classes.length + " classes inside");
        for (Class<?> c : classes) {
            inside(c);
        }
        source(Files.readString(SOURCE));
        System.out.println("rules of the language: " + wrong + " broken");
        if (wrong != 0) {
            System.exit(1);
        }
    }
}
