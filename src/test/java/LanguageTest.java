import java.io.IOException;
import java.lang.reflect.Field;
import java.lang.reflect.Method;
import java.lang.reflect.Modifier;
import java.nio.file.Files;
import java.nio.file.Path;
import java.util.ArrayList;
import java.util.Arrays;
import java.util.List;
import java.util.TreeSet;
import java.util.regex.Matcher;
import java.util.regex.Pattern;

/** The face of the class, and what can be seen of the rules of LANGUAGE.md from the class and its text. */
public final class LanguageTest {
    private static final String[] FACE = {
        "int feed(int, int, int, int, int)", "boolean end(int)", "int frame()", "int fault()", "int kind(int, int)",
        "int now(int)", "int pinned(int)", "int ways()", "int row(int)", "int at(int)", "int first(int)", "int rank()",
        "int behind()", "int standing(int, int)", "int may(int)", "int sure()", "int extended(int, int)",
        "int made(int)", "int third(int, int)", "int hole(int, boolean)", "int pair(int, boolean)", "int pin(int, int)",
        "int drawn(int, int)", "int undo()", "boolean image(int)", "boolean restore(int)"
    };
    private static final String[] FORBIDDEN = {
        "->", "::", "\\bcatch\\b", "\\btry\\b", "\\bfinally\\b", "\\bsynchronized\\b", "\\bassert\\b", "\\binstanceof\\b",
        "Exact\\(", "System\\.(?!arraycopy)", "\\bpackage\\b", "\\bRandom\\b", "\\bThread\\b", "\\bvar\\b", "\" \\+", "\\+ \"",
        "static \\{", "\\bdouble\\b", "\\bfloat\\b", "\\bprotected\\b"
    };

    public static void main(String[] args) throws IOException {
        face();
        members();
        String text = Files.readString(Path.of("src/main/java/TwinRows.java"));
        forbidden(text);
        sizes(text);
        Check.finish();
    }

    private static String told(Method m) {
        List<String> types = new ArrayList<>();
        for (Class<?> type : m.getParameterTypes()) {
            types.add(type.getSimpleName());
        }
        return m.getReturnType().getSimpleName() + " " + m.getName() + "(" + String.join(", ", types) + ")";
    }

    private static void face() {
        TreeSet<String> seen = new TreeSet<>();
        for (Method m : TwinRows.class.getDeclaredMethods()) {
            if (!Modifier.isPrivate(m.getModifiers())) {
                seen.add(told(m));
                Check.due("public, not static: " + m, m.getModifiers(), Modifier.PUBLIC);
            }
        }
        TreeSet<String> due = new TreeSet<>(Arrays.asList(FACE));
        Check.due("the face: " + seen, seen.equals(due), true);
        Check.due("the class", TwinRows.class.getModifiers(), Modifier.PUBLIC | Modifier.FINAL);
        Check.due("constructors", TwinRows.class.getDeclaredConstructors().length, 1);
        Check.due("NONE", TwinRows.NONE, -1);
    }

    private static void members() {
        TreeSet<String> names = new TreeSet<>();
        for (String method : FACE) {
            names.add(method.substring(method.indexOf(' ') + 1, method.indexOf('(')));
        }
        List<Class<?>> classes = new ArrayList<>(Arrays.asList(TwinRows.class.getDeclaredClasses()));
        for (Class<?> c : classes) {
            Check.due("static: " + c, Modifier.isStatic(c.getModifiers()), true);
            Check.due("not public: " + c, Modifier.isPublic(c.getModifiers()), false);
        }
        Check.due("classes", classes.size() <= 11, true);
        classes.add(TwinRows.class);
        for (Class<?> c : classes) {
            int fields = 0;
            for (Field f : c.getDeclaredFields()) {
                boolean isStatic = Modifier.isStatic(f.getModifiers());
                fields += isStatic ? 0 : 1;
                Check.due("private: " + f, Modifier.isPrivate(f.getModifiers()), !f.getName().equals("NONE"));
                Check.due("static and not final: " + f, isStatic && !Modifier.isFinal(f.getModifiers()), false);
            }
            Check.due("fields of " + c, fields <= 20, true);
            for (Method m : c.getDeclaredMethods()) {
                Check.due("parameters of " + m, m.getParameterCount() <= 7, true);
                if (c != TwinRows.class || Modifier.isPrivate(m.getModifiers())) {
                    Check.due("a name of the face: " + m, names.contains(m.getName()), false);
                }
            }
        }
    }

    private static void forbidden(String text) {
        String code = text.replaceAll("(?s)/\\*.*?\\*/", "").replaceAll("//[^\n]*", "");
        for (String form : FORBIDDEN) {
            Matcher m = Pattern.compile(form).matcher(code);
            Check.due("in the text: " + form, m.find(), false);
        }
        Matcher imports = Pattern.compile("import ([^;]*);").matcher(code);
        while (imports.find()) {
            Check.due("import " + imports.group(1),
                imports.group(1).matches("java\\.util\\.(Arrays|ArrayList|List|Iterator|NoSuchElementException)"), true);
        }
        for (int i = 0; i < text.length(); i++) {
            Check.due("sign at " + i, text.charAt(i) < 128, true);
        }
    }

    /** A method begins with 4 or 8 blanks and ends with a brace under its beginning. */
    private static void sizes(String text) {
        for (String margin : new String[] {"    ", "        "}) {
            Matcher m = Pattern.compile("(?m)^" + margin + "\\S[^;=\n]*\\) [^;=\n]*\\{\n((?:.*\n)*?)" + margin + "\\}\n")
                .matcher(text);
            while (m.find()) {
                int lines = m.group(1).split("\n").length;
                Check.due("lines of " + m.group().trim().split("\n")[0], lines <= 60, true);
            }
        }
    }
}
