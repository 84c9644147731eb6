import java.io.IOException;
import java.lang.reflect.Constructor;
import java.lang.reflect.Executable;
import java.lang.reflect.Field;
import java.lang.reflect.Method;
import java.lang.reflect.Modifier;
import java.nio.file.Files;
import java.nio.file.Path;
import java.util.ArrayList;
import java.util.Arrays;
import java.util.List;
import java.util.TreeSet;
import java.util.regex.Matcher;
import java.util.regex.Pattern;

/** The face of the class, and what can be seen of the rules of LANGUAGE.md from the class and its text. */
public final class LanguageTest {
    private static final String[] FORBIDDEN = {
        "->", "::", "\\bcatch\\b", "\\btry\\b", "\\bfinally\\b", "\\bsynchronized\\b", "\\bassert\\b", "\\binstanceof\\b",
        "Exact\\(", "System\\.(?!arraycopy)", "\\bpackage\\b", "\\bRandom\\b", "\\bThread\\b", "\\bvar\\b", "\" \\+", "\\+ \"",
        "static \\{", "\\bdouble\\b", "\\bfloat\\b", "\\bprotected\\b", "Arrays\\.(?!copyOf|copyOfRange|fill)",
        "(Math|Integer|Long)\\.(?!compare|max|min|abs|bitCount|floorDiv|floorMod)", "\\.(equals|hashCode|toString|getMessage)\\(",
        "\\[\\]\\[\\]\\[\\]", "throw new (?!NoSuchElementException\\(\\))"
    };

    public static void main(String[] args) throws IOException, IllegalAccessException {
        List<String> face = documentFace();
        face(face);
        members(face);
        String text = Files.readString(Path.of("src/main/java/TwinRows.java"));
        forbidden(text);
        sizes(text);
        Check.finish();
    }

    /** The members that the document's face shows, without the names of parameters. */
    private static List<String> documentFace() throws IOException {
        String text = Files.readString(Path.of("../shared/DOC.md"));
        Matcher block = Pattern.compile("(?s)public final class TwinRows \\{\n(.*?)\n\\}\n").matcher(text);
        List<String> face = new ArrayList<>();
        if (!block.find()) {
            Check.fail("the document shows no face");
            return face;
        }
        for (String line : block.group(1).split("\n")) {
            face.add(line.trim().replaceAll("(int|boolean) \\w+(?=[,)])", "$1"));
        }
        return face;
    }

    private static String told(Executable member, String kindAndName) {
        List<String> types = new ArrayList<>();
        for (Class<?> type : member.getParameterTypes()) {
            types.add(type.getSimpleName());
        }
        String thrown = "";
        for (Class<?> type : member.getExceptionTypes()) {
            thrown += " throws " + type.getSimpleName();
        }
        return Modifier.toString(member.getModifiers()) + " " + kindAndName + "(" + String.join(", ", types) + ")" + thrown + ";";
    }

    /** All that is not private is what the document shows, and nothing else. */
    private static void face(List<String> document) throws IllegalAccessException {
        TreeSet<String> seen = new TreeSet<>();
        for (Method m : TwinRows.class.getDeclaredMethods()) {
            if (!Modifier.isPrivate(m.getModifiers())) {
                seen.add(told(m, m.getReturnType().getSimpleName() + " " + m.getName()));
            }
        }
        for (Constructor<?> c : TwinRows.class.getDeclaredConstructors()) {
            seen.add(told(c, "TwinRows"));
        }
        for (Field f : TwinRows.class.getDeclaredFields()) {
            if (!Modifier.isPrivate(f.getModifiers())) {
                seen.add(Modifier.toString(f.getModifiers()) + " " + f.getType() + " " + f.getName() + " = " + f.get(null) + ";");
            }
        }
        TreeSet<String> due = new TreeSet<>(document);
        Check.due("the face: " + seen + ", of the document: " + due, seen.equals(due), true);
        Check.due("members of the face", document.size(), 28);
        Check.due("the class", TwinRows.class.getModifiers(), Modifier.PUBLIC | Modifier.FINAL);
    }

    private static void members(List<String> face) {
        TreeSet<String> names = new TreeSet<>();
        for (String member : face) {
            Matcher name = Pattern.compile("(\\w+)\\(").matcher(member);
            if (name.find()) {
                names.add(name.group(1));
            }
        }
        List<Class<?>> classes = new ArrayList<>(Arrays.asList(TwinRows.class.getDeclaredClasses()));
        for (Class<?> c : classes) {
            Check.due("static: " + c, Modifier.isStatic(c.getModifiers()), true);
            Check.due("not public: " + c, Modifier.isPublic(c.getModifiers()), false);
        }
        Check.due("classes", classes.size() <= 11, true);
        classes.add(TwinRows.class);
        for (Class<?> c : classes) {
            int fields = 0;
            for (Field f : c.getDeclaredFields()) {
                boolean isStatic = Modifier.isStatic(f.getModifiers());
                fields += isStatic ? 0 : 1;
                Check.due("private: " + f, Modifier.isPrivate(f.getModifiers()), !f.getName().equals("NONE"));
                Check.due("static and not final: " + f, isStatic && !Modifier.isFinal(f.getModifiers()), false);
            }
            Check.due("fields of " + c, fields <= 20, true);
            for (Method m : c.getDeclaredMethods()) {
                Check.due("parameters of " + m, m.getParameterCount() <= 7, true);
                if (c != TwinRows.class || Modifier.isPrivate(m.getModifiers())) {
                    Check.due("a name of the face: " + m, names.contains(m.getName()), false);
                }
            }
        }
    }

    private static void forbidden(String text) {
        String code = text.replaceAll("(?s)/\\*.*?\\*/", "").replaceAll("//[^\n]*", "");
        for (String form : FORBIDDEN) {
            Matcher m = Pattern.compile(form).matcher(code);
            Check.due("in the text: " + form, m.find(), false);
        }
        Matcher imports = Pattern.compile("import ([^;]*);").matcher(code);
        while (imports.find()) {
            Check.due("import " + imports.group(1),
                imports.group(1).matches("java\\.util\\.(Arrays|ArrayList|List|Iterator|NoSuchElementException)"), true);
        }
        for (int i = 0; i < text.length(); i++) {
            Check.due("sign at " + i, text.charAt(i) < 128, true);
        }
    }

    /** A method begins with 4 or 8 blanks and ends with a brace under its beginning. */
    private static void sizes(String text) {
        for (String margin : new String[] {"    ", "        "}) {
            Matcher m = Pattern.compile("(?m)^" + margin + "\\S[^;=\n]*\\) [^;=\n]*\\{\n((?:.*\n)*?)" + margin + "\\}\n")
                .matcher(text);
            while (m.find()) {
                int lines = m.group(1).split("\n").length;
                Check.due("lines of " + m.group().trim().split("\n")[0], lines <= 60, true);
            }
        }
    }
}
