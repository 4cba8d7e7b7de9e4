import java.lang.reflect.Method;
import java.lang.reflect.Modifier;
import java.net.URL;
import java.net.URLClassLoader;
import java.nio.file.Files;
import java.nio.file.Path;
import java.util.ArrayList;
import java.util.List;
import java.util.concurrent.Callable;
import java.util.regex.Matcher;
import java.util.regex.Pattern;
import javax.tools.JavaCompiler;
import javax.tools.ToolProvider;

/** What README.md shows of the class's use is compiled and run as it stands there; each answer must be the one shown. */
public final class ReadmeTest {
    private static final Pattern NEW = Pattern.compile("(PackedTree tree = new PackedTree\\(\\d+, \\d+\\);)( +//.*)?");
    private static final Pattern SILENT = Pattern.compile("(tree\\.fail\\(.*\\);)");
    private static final Pattern ANSWERED = Pattern.compile("(tree\\.\\w+\\(.*\\)); +// (-?\\d+|true|false|\\w+Exception)(: .*)?");
    private static int wrong = 0;
    private static int answers = 0;

    private static void say(String text) {
        wrong++;
        System.out.println("README.md, " + text);
    }

    /** Called by the examples. */
    public static void due(int line, String call, String answer, Callable<Object> made) {
        String got;
        try {
            got = String.valueOf(made.call());
        } catch (Exception e) {
            got = e.getClass().getSimpleName();
        }
        answers++;
        if (!got.equals(answer)) {
            say("line " + line + ": " + call + " answered " + got + ", shown is " + answer);
        }
    }

    /** The body of an example's method; a line that shows neither an answer nor why there is none is wrong. */
    private static String statement(int number, String line) {
        Matcher begins = NEW.matcher(line);
        Matcher silent = SILENT.matcher(line);
        Matcher answered = ANSWERED.matcher(line);
        if (begins.matches()) {
            return begins.group(1);
        }
        if (silent.matches()) {
            return silent.group(1);
        }
        if (!answered.matches()) {
            say("line " + number + " shows no answer: " + line);
            return "";
        }
        String call = answered.group(1);
        return "ReadmeTest.due(" + number + ", \"" + call + "\", \"" + answered.group(2) + "\", () -> " + call + ");";
    }

    private static List<String> examples(List<String> lines) {
        List<String> examples = new ArrayList<>();
        StringBuilder body = null;
        for (int i = 0; i < lines.size(); i++) {
            String line = lines.get(i);
            if (line.equals("```java")) {
                body = new StringBuilder();
            } else if (line.equals("```")) {
                if (body != null) {
                    examples.add(body.toString());
                }
                body = null;
            } else if (body != null && !line.isBlank()) {
                body.append("        ").append(statement(i + 1, line)).append('\n');
            }
        }
        return examples;
    }

    private static String source(List<String> examples) {
        StringBuilder s = new StringBuilder("public final class ReadmeExamples {\n    public static void all() {\n");
        for (String body : examples) {
            s.append("      {\n").append(body).append("      }\n");
        }
        return s.append("    }\n}\n").toString();
    }

    private static void run(String source) throws Exception {
        Path dir = Files.createTempDirectory("readme");
        Path file = dir.resolve("ReadmeExamples.java");
        Files.writeString(file, source);
        JavaCompiler compiler = ToolProvider.getSystemJavaCompiler();
        String classes = System.getProperty("java.class.path");
        if (compiler.run(null, null, null, "--release", "17", "-cp", classes, "-d", dir.toString(), file.toString()) != 0) {
            say("its examples do not compile");
        } else {
            try (URLClassLoader loader = new URLClassLoader(new URL[] {dir.toUri().toURL()})) {
                loader.loadClass("ReadmeExamples").getMethod("all").invoke(null);
            }
        }
        try (var files = Files.list(dir)) {
            for (Path made : files.toList()) {
                Files.delete(made);
            }
        }
        Files.delete(dir);
    }

    private static void allCallsAreShown(String source) {
        for (Method m : PackedTree.class.getDeclaredMethods()) {
            if (Modifier.isPublic(m.getModifiers()) && !source.contains("tree." + m.getName() + "(")) {
                say("no example shows " + m.getName() + "()");
            }
        }
    }

    /** README.md's path as argument; without it the file is looked for where the test is run. */
    public static void main(String[] args) throws Exception {
        List<String> lines = Files.readAllLines(Path.of(args.length > 0 ? args[0] : "README.md"));
        String source = source(examples(lines));
        allCallsAreShown(source);
        run(source);
        System.out.println(answers + " answers shown in README.md, " + wrong + " wrong");
        if (wrong != 0) {
            System.exit(1);
        }
    }
}
