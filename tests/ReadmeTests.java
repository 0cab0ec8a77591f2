import java.io.IOException;
import java.net.URL;
import java.net.URLClassLoader;
import java.nio.file.Files;
import java.nio.file.Path;
import java.util.ArrayList;
import java.util.List;
import java.util.regex.Matcher;
import java.util.regex.Pattern;
import javax.tools.ToolProvider;

/**
 * The Java code of README.md compiles, and each call answers what stands behind it: the first word of its comment, or
 * all of it where there is no colon.
 */
public final class ReadmeTests {
    private static final Pattern BLOCK = Pattern.compile("(?s)```java\n(.*?)```");
    private static final Pattern CALL = Pattern.compile("(.+?); +// (.+)");
    private static final int LEAST_CALLS = 30;
    private static int calls = 0;
    private static int wrong = 0;

    /** Called by the code that is made of the page. */
    public static void due(String call, Object got, String want) {
        calls++;
        if (!String.valueOf(got).equals(want)) {
            wrong++;
            System.out.println("README: " + call + " answered " + got + ", the page says " + want);
        }
    }

    private static String quoted(String text) {
        return '"' + text.replace("\\", "\\\\").replace("\"", "\\\"") + '"';
    }

    private static String answer(String comment) {
        Matcher number = Pattern.compile("(-?\\d+|true|false)(:.*)?").matcher(comment);
        return number.matches() ? number.group(1) : comment;
    }

    private static String statement(String line) {
        Matcher call = CALL.matcher(line);
        if (!call.matches()) return line;
        return "ReadmeTests.due(" + quoted(call.group(1)) + ", " + call.group(1) + ", " + quoted(answer(call.group(2))) + ");";
    }

    /** Blocks that declare methods are the class's, all others are one run of calls. */
    private static String program(String page) {
        StringBuilder methods = new StringBuilder();
        StringBuilder run = new StringBuilder();
        Matcher block = BLOCK.matcher(page);
        while (block.find()) {
            if (block.group(1).startsWith("static ")) methods.append(block.group(1));
            else for (String line : block.group(1).split("\n")) run.append(statement(line)).append('\n');
        }
        return "public final class Page {\n" + methods + "public static void run() {\n" + run + "}\n}\n";
    }

    private static void runPage(Path work, String program) throws IOException, ReflectiveOperationException {
        Path source = Files.writeString(work.resolve("Page.java"), program);
        String classes = System.getProperty("java.class.path");
        int failed = ToolProvider.getSystemJavaCompiler().run(null, null, null, "-cp", classes, "-d", work.toString(), source.toString());
        if (failed != 0) {
            wrong++;
            System.out.println("the code of README.md does not compile:\n" + program);
            return;
        }
        try (URLClassLoader loader = new URLClassLoader(new URL[] {work.toUri().toURL()})) {
            loader.loadClass("Page").getMethod("run").invoke(null);
        }
    }

    private static void remove(Path work) throws IOException {
        List<Path> files = new ArrayList<>();
        try (var all = Files.list(work)) {
            all.forEach(files::add);
        }
        for (Path file : files) Files.delete(file);
        Files.delete(work);
    }

    public static void main(String[] args) throws IOException, ReflectiveOperationException {
        Path work = Files.createTempDirectory("readme");
        try {
            runPage(work, program(Files.readString(Path.of("README.md"))));
        } finally {
            remove(work);
        }
        if (calls < LEAST_CALLS) {
            wrong++;
            System.out.println("README.md tells only " + calls + " calls with their answers");
        }
        System.out.println(calls + " calls of README.md, " + wrong + " of them not as it says");
        if (wrong != 0) System.exit(1);
    }
}
