import java.io.File;
import java.lang.reflect.Method;
import java.lang.reflect.Modifier;
import java.net.URL;
import java.net.URLClassLoader;
import java.nio.file.Files;
import java.nio.file.Path;
import java.util.Comparator;
import java.util.regex.Matcher;
import java.util.regex.Pattern;
import java.util.stream.Stream;
import javax.tools.ToolProvider;

/** What README.md shows of calls and answers is what the class answers; all calls and all tests are told of there. */
public final class ReadmeTest {
    private static final Pattern PIECE = Pattern.compile("(?s)```java\n(.*?)```");
    private static final Pattern ANSWERED = Pattern.compile("^(x\\.\\w+\\(.*\\)); +// (-?\\d+L?|[A-Z]+)\\b.*$");
    private static final Due DUE = new Due();

    public static void main(String[] args) throws Exception {
        String page = Files.readString(Path.of("README.md"));
        StringBuilder pieces = new StringBuilder();
        for (Matcher piece = PIECE.matcher(page); piece.find();) {
            pieces.append(piece.group(1));
        }
        String shown = pieces.toString();
        answers(shown);
        allCalls(shown);
        allTests(page);
        DUE.end();
    }

    /** Called by the pieces of the page, when they have been compiled. */
    public static void due(String call, long got, long want) {
        DUE.is("README.md: " + call, got, want);
    }

    private static void answers(String shown) throws Exception {
        StringBuilder code = new StringBuilder("public final class ReadmePieces { public static void run() {\n");
        for (String line : shown.split("\n")) {
            Matcher answered = ANSWERED.matcher(line);
            if (answered.matches()) {
                code.append(compared(answered.group(1), answered.group(2)));
            } else {
                DUE.holds("README.md: a call shows its answer: " + line, !line.startsWith("x."));
                code.append(line);
            }
            code.append("\n");
        }
        run(code.append("} }\n").toString());
    }

    private static String compared(String call, String answer) {
        String want = Character.isLetter(answer.charAt(0)) ? "JudgedRows." + answer : answer;
        return "ReadmeTest.due(\"" + call.replace("\"", "\\\"") + "\", " + call + ", " + want + ");";
    }

    private static void run(String code) throws Exception {
        Path folder = Files.createTempDirectory("readme");
        try {
            Path file = Files.writeString(folder.resolve("ReadmePieces.java"), code);
            int failed = ToolProvider.getSystemJavaCompiler().run(null, null, null,
                "-cp", System.getProperty("java.class.path"), "-d", folder.toString(), file.toString());
            DUE.is("README.md: its pieces compile", failed, 0);
            if (failed == 0) {
                try (URLClassLoader loader = new URLClassLoader(new URL[] {folder.toUri().toURL()})) {
                    loader.loadClass("ReadmePieces").getMethod("run").invoke(null);
                }
            }
        } finally {
            remove(folder);
        }
    }

    private static void remove(Path folder) throws Exception {
        try (Stream<Path> all = Files.walk(folder)) {
            all.sorted(Comparator.reverseOrder()).map(Path::toFile).forEach(File::delete);
        }
    }

    private static void allCalls(String shown) {
        for (Method each : JudgedRows.class.getDeclaredMethods()) {
            if (Modifier.isPublic(each.getModifiers())) {
                DUE.holds("README.md shows " + each.getName() + "()", shown.contains("x." + each.getName() + "("));
            }
        }
    }

    private static void allTests(String page) throws Exception {
        try (Stream<Path> all = Files.list(Path.of("src/test/java"))) {
            for (Path each : all.toList()) {
                String name = each.getFileName().toString().replace(".java", "");
                DUE.holds("README.md tells of " + name, !name.endsWith("Test") || page.contains("`" + name + "`"));
            }
        }
    }
}
