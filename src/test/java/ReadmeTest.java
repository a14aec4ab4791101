import java.io.ByteArrayOutputStream;
import java.io.PrintStream;
import java.net.URL;
import java.net.URLClassLoader;
import java.nio.charset.StandardCharsets;
import java.nio.file.Files;
import java.nio.file.Path;
import java.util.regex.Matcher;
import java.util.regex.Pattern;
import java.util.stream.Stream;
import javax.tools.ToolProvider;

/** What README.md says of the class and of its tests is so. */
public final class ReadmeTest {
    private static final Pattern BLOCK = Pattern.compile("(?s)```java\n(.*?)```");
    private static final Pattern CALL = Pattern.compile("(?m)^(night\\.\\w+\\(.*\\)); *// (-?\\d+|NONE|true|false)\\b.*$");
    private static final Pattern ANY_CALL = Pattern.compile("(?m)^night\\.");
    private static int wrong = 0;

    private static void bad(String what) {
        wrong++;
        System.out.println("README.md: " + what);
    }

    private static String answer(String told) {
        return told.equals("NONE") ? "NineSaints.NONE" : told;
    }

    /** The page's code as a program: its first block is a method, the second one what calls it. */
    private static String program(String page) {
        StringBuilder checks = new StringBuilder();
        Matcher block = BLOCK.matcher(page);
        String method = block.find() ? block.group(1) : "";
        String calls = block.find() ? block.group(1) : "";
        Matcher call = CALL.matcher(calls);
        int found = 0;
        while (call.find()) {
            String words = call.group(1).replace("\\", "\\\\").replace("\"", "\\\"");
            call.appendReplacement(checks, Matcher.quoteReplacement(
                    "check(\"" + words + "\", " + call.group(1) + ", " + answer(call.group(2)) + ");"));
            found++;
        }
        call.appendTail(checks);
        if (found == 0 || found != ANY_CALL.matcher(calls).results().count()) {
            bad("a call stands there without its answer");
        }
        System.out.println(found + " calls");
        return "public final class Page {\n static int wrong = 0;\n"
                + " static void check(String call, Object got, Object want) {\n"
                + "  if (!got.equals(want)) { wrong++; System.out.println(\"README.md: \" + call + \" answers \" + got"
                + " + \", not \" + want); } }\n" + method
                + " public static int run() {\n" + checks + " return wrong;\n }\n}\n";
    }

    private static void runPage(String page) throws Exception {
        Path room = Files.createTempDirectory("page");
        Path source = room.resolve("Page.java");
        Files.writeString(source, program(page));
        ByteArrayOutputStream errors = new ByteArrayOutputStream();
        int code = ToolProvider.getSystemJavaCompiler().run(null, null, new PrintStream(errors),
                "-proc:none", "-cp", System.getProperty("java.class.path"), "-d", room.toString(), source.toString());
        if (code != 0) {
            bad("its code does not compile: " + errors.toString(StandardCharsets.UTF_8));
        } else {
            try (URLClassLoader loader = new URLClassLoader(new URL[] {room.toUri().toURL()})) {
                wrong += (int) loader.loadClass("Page").getMethod("run").invoke(null);
            }
        }
        try (Stream<Path> files = Files.list(room)) {
            for (Path file : (Iterable<Path>) files::iterator) {
                Files.delete(file);
            }
        }
        Files.delete(room);
    }

    /** The page names each test that is there, and none that is not. */
    private static void lookAtTests(String page) throws Exception {
        try (Stream<Path> files = Files.list(Path.of("src/test/java"))) {
            for (Path file : (Iterable<Path>) files::iterator) {
                String name = file.getFileName().toString().replace(".java", "");
                if (name.endsWith("Test") && !page.contains("- `" + name + "`:")) {
                    bad("does not name " + name);
                }
            }
        }
        Matcher named = Pattern.compile("- `(\\w+)`:").matcher(page);
        while (named.find()) {
            if (!Files.exists(Path.of("src/test/java", named.group(1) + ".java"))) {
                bad("there is no " + named.group(1));
            }
        }
        if (!page.contains("    .ci/run\n")) {
            bad("does not say how the tests are run");
        }
    }

    public static void main(String[] args) throws Exception {
        String page = Files.readString(Path.of("README.md"), StandardCharsets.UTF_8);
        runPage(page);
        lookAtTests(page);
        System.exit(wrong == 0 ? 0 : 1);
    }
}
