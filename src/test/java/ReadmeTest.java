import java.lang.reflect.Method;
import java.net.URL;
import java.net.URLClassLoader;
import java.nio.file.Files;
import java.nio.file.Path;
import java.util.Comparator;
import java.util.regex.Matcher;
import java.util.regex.Pattern;
import java.util.stream.Stream;
import javax.tools.ToolProvider;

/** The examples of README.md: that they compile, and that each call answers the number that stands behind it. */
public final class ReadmeTest extends Desk {
    private static final Pattern BLOCK = Pattern.compile("(?s)```java\n(.*?)```");
    /** A call, what it is kept as, and the number that its comment begins with. */
    private static final Pattern CALL = Pattern.compile("(int \\w+ = )?([xy]\\.\\w+\\(.*?\\));\\s+// (-?\\d+)\\b.*");

    private static int calls;

    public static void main(String[] args) throws Exception {
        of("README.md");
        Path work = Files.createTempDirectory("readme");
        try {
            String source = program(Files.readString(Path.of(args.length > 0 ? args[0] : "README.md")));
            due("calls with an answer behind them, some", calls >= 20 ? 1 : 0, 1);
            Path file = Files.writeString(work.resolve("Readme.java"), source);
            int left = ToolProvider.getSystemJavaCompiler().run(null, null, null, "-d", work.toString(),
                    "-cp", System.getProperty("java.class.path"), file.toString());
            due("javac of its examples", left, 0);
            if (left == 0) {
                told(work);
            }
        } finally {
            clear(work);
        }
        close("ReadmeTest");
    }

    /** Functions stand in the class as they are; all else is one run of calls. */
    private static String program(String readme) {
        StringBuilder functions = new StringBuilder();
        StringBuilder run = new StringBuilder();
        Matcher block = BLOCK.matcher(readme);
        while (block.find()) {
            if (block.group(1).startsWith("static ")) {
                functions.append(block.group(1));
            } else {
                block.group(1).lines().forEach(line -> run.append(told(line)).append('\n'));
            }
        }
        return "public class Readme {\nstatic StringBuilder out = new StringBuilder();\n"
                + "static int tell(int got) { out.append(got).append('\\n'); return got; }\n"
                + functions + "public static String run() {\n" + run + "return out.toString();\n}\n}\n";
    }

    private static String told(String line) {
        Matcher call = CALL.matcher(line);
        if (!call.matches()) {
            return line;
        }
        calls++;
        String kept = call.group(1) == null ? "" : call.group(1);
        return "out.append(\"" + call.group(2) + "=" + call.group(3) + "=\"); " + kept + "tell(" + call.group(2) + ");";
    }

    private static void told(Path work) throws Exception {
        try (URLClassLoader loader = new URLClassLoader(new URL[] {work.toUri().toURL()}, ReadmeTest.class.getClassLoader())) {
            Method run = loader.loadClass("Readme").getMethod("run");
            String[] lines = ((String) run.invoke(null)).split("\n");
            due("calls that were run", lines.length, calls);
            for (String line : lines) {
                String[] parts = line.split("=");
                due(parts[0], Long.parseLong(parts[2]), Long.parseLong(parts[1]));
            }
        }
    }

    private static void clear(Path work) throws Exception {
        try (Stream<Path> files = Files.walk(work)) {
            for (Path file : files.sorted(Comparator.reverseOrder()).toList()) {
                Files.delete(file);
            }
        }
    }
}
