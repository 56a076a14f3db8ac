import java.io.IOException;
import java.lang.reflect.Method;
import java.lang.reflect.Modifier;
import java.net.URL;
import java.net.URLClassLoader;
import java.nio.file.Files;
import java.nio.file.Path;
import java.util.ArrayList;
import java.util.Comparator;
import java.util.List;
import java.util.regex.Matcher;
import java.util.regex.Pattern;
import java.util.stream.Stream;
import javax.tools.ToolProvider;

/** README.md's examples answer as it says, and it names every call. Runs in the project's folder. */
public final class ReadmeTest {
    private static final Pattern BLOCK = Pattern.compile("```java\\n(.*?)```", Pattern.DOTALL);
    private static final Pattern ANSWER = Pattern.compile("((?:x\\.|tell\\().*\\));\\s+// (-?\\d+)\\b.*");
    private static final Pattern CALL = Pattern.compile("^(?:x\\.|tell\\().*", Pattern.MULTILINE);

    private final StringBuilder shared = new StringBuilder();
    private final StringBuilder run = new StringBuilder();
    private final List<String> calls = new ArrayList<>();
    private final List<Long> due = new ArrayList<>();

    public static void main(String[] args) throws Exception {
        String page = Files.readString(Path.of("README.md"));
        namesEveryCall(page);
        ReadmeTest test = new ReadmeTest();
        test.read(page);
        Path folder = Files.createTempDirectory("readme");
        try {
            test.look(answers(test.source(), folder));
        } finally {
            remove(folder);
        }
        Check.end();
    }

    private static void namesEveryCall(String page) {
        for (Method m : SpareRings.class.getDeclaredMethods()) {
            if (Modifier.isPublic(m.getModifiers())) {
                Check.holds("README.md names " + m.getName(), page.contains("`" + m.getName() + "`"));
            }
        }
    }

    /** Examples with methods are for all others; each of the others stands between braces of its own. */
    private void read(String page) {
        Matcher block = BLOCK.matcher(page);
        while (block.find()) {
            if (block.group(1).contains("static ")) {
                shared.append(block.group(1));
            } else {
                run.append("{\n").append(block.group(1).lines().map(this::line).reduce("", (a, b) -> a + b + "\n")).append("}\n");
            }
        }
        Check.holds("README.md has examples", due.size() >= 60);
    }

    private String line(String told) {
        Matcher m = ANSWER.matcher(told);
        if (!m.matches()) {
            boolean silent = CALL.matcher(told).matches() && told.contains("//");
            Check.holds("README.md says what is answered in: " + told, !silent);
            return told;
        }
        calls.add(m.group(1));
        due.add(Long.parseLong(m.group(2)));
        return "got.add((long) " + m.group(1) + ");";
    }

    private String source() {
        return "public final class ReadmePage {\n" + shared + "public static java.util.List<Long> run() {\n"
                + "java.util.List<Long> got = new java.util.ArrayList<>();\n" + run + "return got;\n}\n}\n";
    }

    private void look(List<?> got) {
        Check.due("README.md's answers", got.size(), due.size());
        for (int i = 0; i < got.size() && i < due.size(); i++) {
            Check.alike("README.md: " + calls.get(i), "" + got.get(i), "" + due.get(i));
        }
    }

    private static List<?> answers(String source, Path folder) throws Exception {
        Path file = folder.resolve("ReadmePage.java");
        Files.writeString(file, source);
        int failed = ToolProvider.getSystemJavaCompiler().run(null, null, null, "-d", folder.toString(),
                "-cp", System.getProperty("java.class.path"), file.toString());
        Check.due("README.md's examples compile", failed, 0);
        if (failed != 0) {
            return List.of();
        }
        try (URLClassLoader loader = new URLClassLoader(new URL[] {folder.toUri().toURL()})) {
            return (List<?>) loader.loadClass("ReadmePage").getMethod("run").invoke(null);
        }
    }

    private static void remove(Path folder) throws IOException {
        try (Stream<Path> all = Files.walk(folder)) {
            for (Path path : all.sorted(Comparator.reverseOrder()).toList()) {
                Files.delete(path);
            }
        }
    }
}
