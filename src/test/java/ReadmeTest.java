import java.io.IOException;
import java.lang.reflect.Method;
import java.lang.reflect.Modifier;
import java.net.URL;
import java.net.URLClassLoader;
import java.nio.file.Files;
import java.nio.file.Path;
import java.util.Comparator;
import java.util.List;
import java.util.regex.Matcher;
import java.util.regex.Pattern;
import java.util.stream.Stream;
import javax.tools.ToolProvider;

/** README.md: its examples answer what they say, and it names each call and each file of the tests. */
public final class ReadmeTest {
    private static final Path README = Path.of("README.md");
    private static final Path TESTS = Path.of("src/test/java");
    /** A call, perhaps with a variable for its answer, and behind it the answer that is due. */
    private static final Pattern CALL = Pattern.compile("(?m)^(int \\w+ = )?([a-z]\\w*\\.\\w+\\(.*\\)); *// (-?\\d+): .*$");
    private static final int LEAST_CALLS = 20;

    public static void main(String[] args) throws Exception {
        String text = Files.readString(README);
        examples(text);
        namesEachCall(text);
        namesEachTest(text);
        Check.end();
    }

    private static void examples(String text) throws Exception {
        Matcher block = Pattern.compile("(?s)```java\n(.*?)```").matcher(text);
        StringBuilder code = new StringBuilder();
        while (block.find()) {
            code.append(block.group(1));
        }
        Check.equal("examples with an answer are there", CALL.matcher(code).results().count() >= LEAST_CALLS ? 1 : 0, 1);
        Path folder = Files.createTempDirectory("readme");
        try {
            run(folder, CALL.matcher(code).replaceAll(found -> compared(found.group(1), found.group(2), found.group(3))));
        } finally {
            remove(folder);
        }
    }

    /** The call as a statement that compares its answer; a variable for it is made outside of the comparison. */
    private static String compared(String variable, String call, String due) {
        String got = variable == null ? call : variable.replaceAll("int | = ", "");
        String made = variable == null ? "" : variable + call + "; ";
        return Matcher.quoteReplacement(made + "due(\"" + call + "\", " + got + ", " + due + ");");
    }

    private static void run(Path folder, String statements) throws Exception {
        Path source = folder.resolve("ReadmeExample.java");
        Files.writeString(source, "public final class ReadmeExample {\n"
                + "    private static final StringBuilder WRONG = new StringBuilder();\n"
                + "    private static void due(String call, long got, long want) {\n"
                + "        if (got != want) { WRONG.append(call + \" answered \" + got + \", due is \" + want + \"; \"); }\n"
                + "    }\n"
                + "    public static String run() {\n" + statements + "        return WRONG.toString();\n    }\n}\n");
        int compiled = ToolProvider.getSystemJavaCompiler().run(null, null, null, "-proc:none", "-cp",
                System.getProperty("java.class.path"), "-d", folder.toString(), source.toString());
        if (compiled != 0) {
            Check.fail("the examples do not compile");
            return;
        }
        try (URLClassLoader loader = new URLClassLoader(new URL[] {folder.toUri().toURL()})) {
            Object wrong = loader.loadClass("ReadmeExample").getMethod("run").invoke(null);
            if (!wrong.equals("")) {
                Check.fail("README.md: " + wrong);
            }
        }
    }

    private static void remove(Path folder) throws IOException {
        List<Path> paths;
        try (Stream<Path> all = Files.walk(folder)) {
            paths = all.sorted(Comparator.reverseOrder()).toList();
        }
        for (Path path : paths) {
            Files.delete(path);
        }
    }

    private static void namesEachCall(String text) {
        for (Method method : ArchiveMirrors.class.getDeclaredMethods()) {
            boolean row = text.contains("| `" + method.getName() + "(");
            if (Modifier.isPublic(method.getModifiers()) && !row) {
                Check.fail("README.md has no row for " + method.getName());
            }
        }
    }

    private static void namesEachTest(String text) throws IOException {
        List<Path> files;
        try (Stream<Path> all = Files.list(TESTS)) {
            files = all.toList();
        }
        for (Path file : files) {
            String name = file.getFileName().toString().replace(".java", "");
            if (!text.contains("`" + name + "`")) {
                Check.fail("README.md does not name " + name);
            }
        }
    }
}
