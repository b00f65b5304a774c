import java.io.IOException;
import java.lang.reflect.Method;
import java.lang.reflect.Modifier;
import java.nio.file.Files;
import java.nio.file.Path;
import java.util.Comparator;
import java.util.List;
import java.util.concurrent.Callable;
import java.util.regex.Matcher;
import java.util.regex.Pattern;
import java.util.stream.Stream;
import javax.tools.JavaCompiler;
import javax.tools.ToolProvider;

/** The run of calls in README.md, compiled as it stands there, answers as it is told there. */
public final class ReadmeTest {
    private static final Path README = Path.of("README.md");
    private static final Pattern BLOCK = Pattern.compile("(?s)```java\n(.*?)```");
    private static final Pattern ANSWERED = Pattern.compile("(?m)^(.+?);\\s*// -> (throws \\w+|-?\\w+)(:.*)?$");
    private static int many = 0;
    private static int wrong = 0;

    public static void main(String[] args) throws Exception {
        String text = Files.readString(README);
        namesEveryCall(text);
        runExample(text);
        System.out.println(many + " answers of README.md, " + wrong + " wrong");
        if (wrong > 0) {
            System.exit(1);
        }
    }

    /** Called from the compiled lines. */
    public static void due(String line, String want, Callable<Object> call) {
        many++;
        String got;
        try {
            got = String.valueOf(call.call());
        } catch (Exception e) {
            got = "throws " + e.getClass().getSimpleName();
        }
        if (!got.equals(want)) {
            fail(line + " answered " + got + ", README.md tells " + want);
        }
    }

    private static void fail(String why) {
        wrong++;
        System.out.println(why);
    }

    private static void namesEveryCall(String text) {
        for (Method m : DripCups.class.getDeclaredMethods()) {
            if (Modifier.isPublic(m.getModifiers()) && !text.contains("`" + m.getName() + "`")) {
                fail("README.md does not name " + m.getName());
            }
        }
    }

    private static void runExample(String text) throws Exception {
        Path folder = Files.createTempDirectory("readme");
        try {
            Path file = folder.resolve("ReadmeRun.java");
            Files.writeString(file, program(text));
            JavaCompiler javac = ToolProvider.getSystemJavaCompiler();
            String classes = System.getProperty("java.class.path");
            int code = javac.run(null, null, null, "-cp", classes, "-d", folder.toString(), file.toString());
            if (code != 0) {
                fail("the run in README.md does not compile");
                return;
            }
            try (var loader = new java.net.URLClassLoader(new java.net.URL[] {folder.toUri().toURL()})) {
                loader.loadClass("ReadmeRun").getMethod("run").invoke(null);
            }
        } finally {
            remove(folder);
        }
        if (many < 30) {
            fail("README.md tells only " + many + " answers");
        }
    }

    /** Methods of README.md become methods; of the other lines each that tells an answer becomes a check of it. */
    private static String program(String text) {
        StringBuilder methods = new StringBuilder();
        StringBuilder lines = new StringBuilder();
        Matcher block = BLOCK.matcher(text);
        while (block.find()) {
            if (block.group(1).startsWith("static ")) {
                methods.append(block.group(1));
            } else {
                lines.append(ANSWERED.matcher(block.group(1)).replaceAll(ReadmeTest::check));
            }
        }
        return "public final class ReadmeRun {\n" + methods + "public static void run() {\n" + lines + "}\n}\n";
    }

    private static String check(java.util.regex.MatchResult line) {
        String call = line.group(1).strip();
        String name = call.replace("\\", "\\\\").replace("\"", "\\\"");
        String checked = "ReadmeTest.due(\"" + name + "\", \"" + line.group(2) + "\", () -> " + call + ");";
        return Matcher.quoteReplacement(checked);
    }

    private static void remove(Path folder) throws IOException {
        List<Path> all;
        try (Stream<Path> walk = Files.walk(folder)) {
            all = walk.sorted(Comparator.reverseOrder()).toList();
        }
        for (Path one : all) {
            Files.delete(one);
        }
    }
}
