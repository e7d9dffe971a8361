import java.io.IOException;
import java.lang.reflect.Method;
import java.lang.reflect.Modifier;
import java.net.URL;
import java.net.URLClassLoader;
import java.nio.file.Files;
import java.nio.file.Path;
import java.util.ArrayList;
import java.util.List;
import java.util.regex.Matcher;
import java.util.regex.Pattern;
import java.util.stream.Stream;
import javax.tools.ToolProvider;

/**
 * What README.md says of the use of the class holds: its calls are written into a class as they stand there, compiled
 * together with RadioCues.java, and run; and it leaves no method and no test out. It runs in the project's folder.
 */
public final class ReadmeTest {
    private static final Path README = Path.of("README.md");
    private static final Path SOURCE = Path.of("src/main/java/RadioCues.java");
    private static final Path TESTS = Path.of("src/test/java");
    private static final Path FOLDER = Path.of("build/readme");
    private static final Pattern BLOCK = Pattern.compile("```java\n(.*?)```", Pattern.DOTALL);
    /** A call that ends its statement, and a comment that begins with the answer: a number, or the name of a constant. */
    private static final Pattern CALL = Pattern.compile("(mixer\\.(\\w+)\\(.*\\)); +// (-?[0-9]+|[A-Z_]+): .*");
    private static int wrong = 0;

    private ReadmeTest() { }

    public static void main(String[] args) throws Exception {
        String page = Files.readString(README);
        List<String> lines = linesOfBlocks(page);
        List<Matcher> calls = callsOf(lines);
        everyMethod(calls);
        everyTest(page);
        run(sourceOf(lines, calls));
        System.out.println(calls.size() + " calls of README.md, " + wrong + " faults");
        if (wrong != 0) {
            System.exit(1);
        }
    }

    private static void fault(String text) {
        wrong++;
        System.out.println("README.md: " + text);
    }

    private static List<String> linesOfBlocks(String page) {
        List<String> lines = new ArrayList<>();
        Matcher block = BLOCK.matcher(page);
        while (block.find()) {
            lines.addAll(block.group(1).lines().toList());
        }
        return lines;
    }

    /** The calls; the first line makes the mixer, and each other one has to be a call with its answer. */
    private static List<Matcher> callsOf(List<String> lines) {
        if (lines.isEmpty() || !lines.get(0).equals("RadioCues mixer = new RadioCues();")) {
            fault("its first line does not make the mixer");
        }
        List<Matcher> calls = new ArrayList<>();
        for (int i = 1; i < lines.size(); i++) {
            Matcher call = CALL.matcher(lines.get(i));
            if (call.matches()) {
                calls.add(call);
            } else {
                fault("not a call with its answer: " + lines.get(i));
            }
        }
        return calls;
    }

    private static void everyMethod(List<Matcher> calls) {
        for (Method method : RadioCues.class.getDeclaredMethods()) {
            boolean open = Modifier.isPublic(method.getModifiers());
            if (open && calls.stream().noneMatch(call -> call.group(2).equals(method.getName()))) {
                fault("does not show the use of " + method.getName());
            }
        }
    }

    private static void everyTest(String page) throws IOException {
        try (Stream<Path> files = Files.list(TESTS)) {
            for (Path file : files.toList()) {
                String name = file.getFileName().toString().replace(".java", "");
                if (!page.contains("`" + name + "`")) {
                    fault("does not tell of " + name);
                }
            }
        }
        Matcher listed = Pattern.compile("`(\\w+Test)`").matcher(page);
        while (listed.find()) {
            if (!Files.exists(TESTS.resolve(listed.group(1) + ".java"))) {
                fault("tells of " + listed.group(1) + ", which is not there");
            }
        }
    }

    /** A class with all lines as they stand, and with all calls once more, each compared with its answer. */
    private static String sourceOf(List<String> lines, List<Matcher> calls) {
        StringBuilder source = new StringBuilder("public final class ReadmeUse {\n    static void asItStands() {\n");
        lines.forEach(line -> source.append(line).append('\n'));
        source.append("    }\n\n    public static int faults() {\n        int wrong = 0;\n");
        source.append("        asItStands();\n        RadioCues mixer = new RadioCues();\n");
        for (Matcher call : calls) {
            String answer = call.group(3).matches("[A-Z].*") ? "RadioCues." + call.group(3) : call.group(3);
            source.append("        wrong += due(\"").append(call.group(1)).append("\", ").append(call.group(1)).append(", ");
            source.append(answer).append(");\n");
        }
        source.append("        return wrong;\n    }\n\n    static int due(String call, int got, int want) {\n");
        source.append("        if (got != want) {\n            System.out.println(\"README.md: \" + call + \" answers \" + got");
        source.append(" + \", it says \" + want);\n        }\n        return got == want ? 0 : 1;\n    }\n}\n");
        return source.toString();
    }

    private static void run(String source) throws Exception {
        Files.createDirectories(FOLDER);
        Path file = FOLDER.resolve("ReadmeUse.java");
        Files.writeString(file, source);
        int code = ToolProvider.getSystemJavaCompiler().run(null, null, null, "-encoding", "UTF-8", "-d", FOLDER.toString(),
                SOURCE.toString(), file.toString());
        if (code != 0) {
            fault("its calls do not compile");
            return;
        }
        URL[] folder = {FOLDER.toUri().toURL()};
        try (URLClassLoader loader = new URLClassLoader(folder, ClassLoader.getPlatformClassLoader())) {
            wrong += (int) loader.loadClass("ReadmeUse").getMethod("faults").invoke(null);
        }
    }
}
