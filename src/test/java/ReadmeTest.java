import java.io.IOException;
import java.lang.reflect.Method;
import java.lang.reflect.Modifier;
import java.nio.file.Files;
import java.nio.file.Path;
import java.util.ArrayList;
import java.util.List;
import java.util.regex.Matcher;
import java.util.regex.Pattern;
import java.util.stream.Stream;

/** What README.md shows: each answer is the one that the class gives, each call is shown, each command runs the tests. */
public final class ReadmeTest {
    private static final Path README = Path.of("README.md");
    private static final Pattern BLOCK = Pattern.compile("(?ms)^```(\\w*)\n(.*?)^```$");
    private static final Pattern CALL =
        Pattern.compile("(x\\.(\\w+)\\([^)]*\\)); +// (-?\\d+|true|false|NoSuchElementException)\\b.*");
    private static final String NEW = "TwinRows x = new TwinRows();";
    private static final String SCRIPT = ".ci/run";
    private static final List<String> RUN_THE_SCRIPT = List.of("ReadmeTest", "ScriptTest");

    public static void main(String[] args) throws IOException, InterruptedException {
        String readme = Files.readString(README);
        answers(blocks(readme, "java"));
        commands(blocks(readme, "sh"));
        files(readme);
        Check.finish();
    }

    private static List<String> blocks(String readme, String language) {
        List<String> blocks = new ArrayList<>();
        Matcher m = BLOCK.matcher(readme);
        while (m.find()) {
            if (m.group(1).equals(language)) {
                blocks.add(m.group(2));
            }
        }
        Check.about("README.md");
        Check.due("blocks of " + language, blocks.isEmpty(), false);
        return blocks;
    }

    /** The blocks become a program that asks the class, so that what is shown must compile, too. */
    private static void answers(List<String> blocks) throws IOException, InterruptedException {
        Check.about("the answers in README.md");
        StringBuilder body = new StringBuilder();
        List<String> shown = new ArrayList<>();
        for (String block : blocks) {
            body.append("{\n");
            for (String line : block.split("\n")) {
                body.append(asked(line, shown)).append('\n');
            }
            body.append("}\n");
        }
        for (Method m : TwinRows.class.getDeclaredMethods()) {
            if (Modifier.isPublic(m.getModifiers())) {
                Check.due("shows " + m.getName(), shown.contains(m.getName()), true);
            }
        }
        Checkout checkout = new Checkout();
        checkout.take("src/main/java/TwinRows.java");
        checkout.write("Shown.java", program(body.toString()));
        run(checkout, "javac -d out src/main/java/TwinRows.java Shown.java && java -cp out Shown");
        List<String> printed = checkout.printed();
        Check.due("asked: " + printed, printed.contains(shown.size() + " asked"), true);
        checkout.delete();
    }

    private static String asked(String line, List<String> shown) {
        if (line.equals(NEW)) {
            return line;
        }
        Matcher m = CALL.matcher(line);
        if (!m.matches()) {
            Check.fail("no call with an answer: " + line);
            return "";
        }
        shown.add(m.group(2));
        return "try { due(\"" + m.group(1) + "\", \"" + m.group(3) + "\", \"\" + " + m.group(1)
            + "); } catch (java.util.NoSuchElementException e) { due(\"" + m.group(1) + "\", \"" + m.group(3)
            + "\", \"NoSuchElementException\"); }";
    }

    private static String program(String body) {
        return "public final class Shown {\n"
            + "static int asked = 0; static int wrong = 0;\n"
            + "static void due(String call, String want, String got) { asked++; if (!got.equals(want)) { wrong++;\n"
            + "System.out.println(call + \" answered \" + got + \", shown is \" + want); } }\n"
            + "public static void main(String[] args) {\n" + body
            + "System.out.println(asked + \" asked\"); System.exit(wrong == 0 ? 0 : 1); } }\n";
    }

    /** The script runs this test, too, so all is run in a checkout that is without the tests that run the script. */
    private static void commands(List<String> blocks) throws IOException, InterruptedException {
        Checkout checkout = new Checkout();
        checkout.take(".ci");
        checkout.take("src");
        checkout.take("README.md");
        checkout.take("../shared");
        for (String name : RUN_THE_SCRIPT) {
            checkout.remove("src/test/java/" + name + ".java");
        }
        boolean namesScript = false;
        for (String block : blocks) {
            Check.about("the commands in README.md: " + block.trim().replace("\n", " ; "));
            run(checkout, block);
            if (block.trim().equals(SCRIPT)) {
                namesScript = true;
                dueAllRun(checkout.printed());
            } else {
                dueOneRun(checkout.printed());
            }
        }
        Check.due("the script is named", namesScript, true);
        checkout.delete();
    }

    private static void dueOneRun(List<String> printed) {
        String last = printed.isEmpty() ? "" : printed.get(printed.size() - 1);
        Check.due("printed at last: " + last, last.endsWith("answers are as due"), true);
    }

    private static void dueAllRun(List<String> printed) throws IOException {
        List<String> names = testNames();
        for (String name : names) {
            Check.due(name + " is run", printed.contains("== " + name), true);
        }
        Check.due("all passed", printed.contains(names.size() + " passed, 0 failed"), true);
    }

    private static List<String> testNames() throws IOException {
        List<String> names = new ArrayList<>();
        addNames(Path.of("src/test/java"), "Test.java", names);
        addNames(Path.of("../shared/tests"), ".java", names);
        names.removeAll(RUN_THE_SCRIPT);
        return names;
    }

    private static void addNames(Path folder, String ending, List<String> names) throws IOException {
        try (Stream<Path> files = Files.list(folder)) {
            for (Path file : files.toList()) {
                String name = file.getFileName().toString();
                if (name.endsWith(ending)) {
                    names.add(name.substring(0, name.length() - ".java".length()));
                }
            }
        }
    }

    private static void run(Checkout checkout, String commands) throws IOException, InterruptedException {
        checkout.start(checkout.folder(), "bash", "-e", "-c", commands);
        int exitCode = checkout.exitCode();
        Check.due("exit code", exitCode, 0);
        if (exitCode != 0) {
            System.out.println(String.join("\n", checkout.printed()));
        }
    }

    /** Files and tests that the text names between two back ticks are there. */
    private static void files(String readme) {
        Check.about("the files that README.md names");
        Matcher m = Pattern.compile("`([.\\w][^` ]*/[^` *]*|\\w+Test)`")
            .matcher(BLOCK.matcher(readme).replaceAll(""));
        while (m.find()) {
            String name = m.group(1);
            Path path = name.endsWith("Test") ? Path.of("src/test/java", name + ".java") : Path.of(name);
            Check.due(name + " is there", Files.exists(path), true);
        }
    }
}
