import java.io.IOException;
import java.net.URL;
import java.net.URLClassLoader;
import java.nio.file.Files;
import java.nio.file.Path;
import java.util.ArrayList;
import java.util.Comparator;
import java.util.List;
import java.util.regex.Matcher;
import java.util.regex.Pattern;
import java.util.stream.Stream;
import javax.tools.JavaCompiler;
import javax.tools.ToolProvider;

/**
 * The Java of README.md holds: its blocks are made one program, each call with an answer behind it is asked for
 * that answer, and the program is compiled and run. Every method of the class's face stands on the page.
 */
public final class ReadmeTest {
    private static final Pattern BLOCK = Pattern.compile("```java\\n(.*?)```", Pattern.DOTALL);
    private static final Pattern ANSWERED = Pattern.compile("^(file\\.(\\w+)\\(.*\\));\\s*// (-?\\d+)(:.*)?$");
    private static final int FEWEST_ANSWERS = 60;

    private static int wrong = 0;
    private static int answers = 0;

    public static void main(String[] args) throws Exception {
        Path source = Path.of(args.length > 0 ? args[0] : "src/main/java/TwinBuckets.java");
        Path root = source.toAbsolutePath().getParent().getParent().getParent().getParent();
        String page = Files.readString(root.resolve("README.md"));
        lookForCalls(page);
        run(program(page));
        if (answers < FEWEST_ANSWERS) {
            fail("only " + answers + " answers are told");
        }
        System.out.println(wrong == 0 ? answers + " answers are as the page says" : wrong + " things are wrong");
        if (wrong != 0) {
            System.exit(1);
        }
    }

    /** Called by the program that is made of the page. */
    public static void due(String call, long got, long want) {
        if (got != want) {
            fail(call + " answered " + got + ", the page says " + want);
        }
    }

    private static void fail(String what) {
        wrong++;
        System.out.println(what);
    }

    private static void lookForCalls(String page) {
        for (java.lang.reflect.Method m : TwinBuckets.class.getDeclaredMethods()) {
            boolean isFace = java.lang.reflect.Modifier.isPublic(m.getModifiers());
            if (isFace && !Pattern.compile("`" + m.getName() + "\\(").matcher(page).find()) {
                fail("the page does not tell of " + m.getName() + "()");
            }
        }
    }

    private static String program(String page) {
        StringBuilder methods = new StringBuilder();
        StringBuilder acts = new StringBuilder();
        Matcher block = BLOCK.matcher(page);
        while (block.find()) {
            String code = block.group(1);
            if (code.contains("static ")) {
                methods.append(code);
            } else {
                acts.append("{\n").append(asked(code)).append("}\n");
            }
        }
        return "public final class ReadmeCode {\n" + methods
            + "public static void main(String[] args) {\n" + acts + "}\n}\n";
    }

    private static String asked(String code) {
        StringBuilder asked = new StringBuilder();
        for (String line : code.split("\n")) {
            Matcher m = ANSWERED.matcher(line);
            if (m.matches()) {
                answers++;
                asked.append("ReadmeTest.due(\"").append(m.group(1)).append("\", ").append(m.group(1)).append(", ")
                    .append(m.group(3)).append("L);\n");
            } else {
                asked.append(line).append('\n');
                if (line.startsWith("file.")) {
                    fail("no answer is told: " + line);
                }
            }
        }
        return asked.toString();
    }

    private static void run(String program) throws Exception {
        Path directory = Files.createTempDirectory("readme");
        try {
            Path file = directory.resolve("ReadmeCode.java");
            Files.writeString(file, program);
            JavaCompiler compiler = ToolProvider.getSystemJavaCompiler();
            int refused = compiler.run(null, null, null, "-cp", System.getProperty("java.class.path"),
                "-d", directory.toString(), file.toString());
            if (refused != 0) {
                fail("the page's Java does not compile");
                return;
            }
            try (URLClassLoader loader = new URLClassLoader(new URL[] {directory.toUri().toURL()})) {
                loader.loadClass("ReadmeCode").getMethod("main", String[].class).invoke(null, (Object) new String[0]);
            }
        } finally {
            remove(directory);
        }
    }

    private static void remove(Path directory) throws IOException {
        List<Path> all = new ArrayList<>();
        try (Stream<Path> found = Files.walk(directory)) {
            found.sorted(Comparator.reverseOrder()).forEach(all::add);
        }
        for (Path p : all) {
            Files.delete(p);
        }
    }
}
