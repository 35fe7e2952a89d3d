import java.io.IOException;
import java.lang.reflect.Field;
import java.lang.reflect.Method;
import java.lang.reflect.Modifier;
import java.nio.file.Files;
import java.nio.file.Path;
import java.util.TreeSet;
import java.util.regex.Matcher;
import java.util.regex.Pattern;

/** The rules of ../shared/LANGUAGE.md that can be seen from the class and its source. */
public final class LanguageTest {
    private static final Told TOLD = new Told();
    private static final String FACE = "arrange at back best bestText box column count covered exchange feed gap "
            + "insert inside join joined least letter line mirror move part release same scale side sign smallest "
            + "spell square swap text tightest turn undo ways";
    private static final String[] BANNED = {
        "\\bthrow\\b", "\\btry\\b", "\\bcatch\\b", "\\bsynchronized\\b", "\\bassert\\b", "->", "::",
        "\\bdouble\\b", "\\bfloat\\b", "Exact\\(", "\\bprotected\\b", "\\bstatic\\s*\\{", "\\bObject\\b",
        "\\bSystem\\.(?!arraycopy)", "hashCode", "toString", "\\bThread\\b", "@", "\\bvar\\b", "\\bnative\\b"};

    public static void main(String[] args) throws IOException {
        face();
        int classes = 1;
        TreeSet<String> names = new TreeSet<>();
        for (Class<?> inner : SignSquares.class.getDeclaredClasses()) {
            classes++;
            names.add(inner.getSimpleName());
            inner(inner);
        }
        TOLD.due("at most twelve classes: " + names, classes <= 12, true);
        source(Files.readString(Path.of("src/main/java/SignSquares.java")));
        TOLD.end();
    }

    private static void face() {
        TreeSet<String> open = new TreeSet<>();
        for (Method m : SignSquares.class.getDeclaredMethods()) {
            TOLD.due("public or private: " + m, Modifier.isPublic(m.getModifiers())
                    || Modifier.isPrivate(m.getModifiers()), true);
            TOLD.due("at most seven parameters: " + m, m.getParameterCount() <= 7, true);
            if (Modifier.isPublic(m.getModifiers())) {
                TOLD.due("one of a name: " + m, open.add(m.getName()), true);
            }
        }
        TOLD.due("the face", String.join(" ", open), FACE);
        for (Method m : SignSquares.class.getDeclaredMethods()) {
            TOLD.due("no private one of a public name: " + m, Modifier.isPublic(m.getModifiers())
                    || !open.contains(m.getName()), true);
        }
        for (Field f : SignSquares.class.getDeclaredFields()) {
            TOLD.due("a field's sight: " + f, Modifier.isPrivate(f.getModifiers()) != f.getName().equals("NONE"),
                    true);
        }
        fields(SignSquares.class);
        TOLD.due("one constructor", SignSquares.class.getDeclaredConstructors().length, 1);
        TOLD.due("public and final", SignSquares.class.getModifiers(), Modifier.PUBLIC | Modifier.FINAL);
    }

    private static void inner(Class<?> inner) {
        TOLD.due("static and hidden: " + inner, Modifier.isStatic(inner.getModifiers())
                && !Modifier.isPublic(inner.getModifiers()) && !Modifier.isProtected(inner.getModifiers()), true);
        for (Method m : inner.getDeclaredMethods()) {
            TOLD.due("at most seven parameters: " + m, m.getParameterCount() <= 7, true);
            TOLD.due("no name of the face: " + m, (" " + FACE + " ").contains(" " + m.getName() + " "), false);
        }
        fields(inner);
    }

    private static void fields(Class<?> of) {
        int own = 0;
        for (Field f : of.getDeclaredFields()) {
            boolean fixed = Modifier.isStatic(f.getModifiers());
            TOLD.due("no static state: " + f, !fixed || Modifier.isFinal(f.getModifiers()), true);
            own += fixed ? 0 : 1;
        }
        TOLD.due("at most twenty fields: " + of, own <= 20, true);
    }

    private static void source(String source) {
        String code = source.replaceAll("(?s)/\\*.*?\\*/", "").replaceAll("//[^\n]*", "");
        for (String banned : BANNED) {
            Matcher m = Pattern.compile(banned).matcher(code);
            TOLD.due("not in the source: " + banned, m.find(), false);
        }
        Matcher imports = Pattern.compile("import ([^;]*);").matcher(code);
        while (imports.find()) {
            TOLD.due("imported", imports.group(1), "java.util.Arrays");
        }
        int length = 0;
        for (String line : code.split("\n")) {
            // a method's lines are those between two that close one
            boolean closes = line.equals("    }") || line.equals("        }");
            length = closes || line.isBlank() ? 0 : length + 1;
            TOLD.due("a short method at '" + line.strip() + "'", length <= 60, true);
        }
        for (char c : source.toCharArray()) {
            if (c < 1 || c > 127) {
                TOLD.due("a sign of the source", c, ' ');
            }
        }
    }
}
