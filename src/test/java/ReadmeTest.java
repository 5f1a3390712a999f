import java.io.File;
import java.io.IOException;
import java.lang.reflect.Method;
import java.lang.reflect.Modifier;
import java.net.URL;
import java.net.URLClassLoader;
import java.nio.file.Files;
import java.nio.file.Path;
import java.util.ArrayList;
import java.util.Comparator;
import java.util.HashSet;
import java.util.List;
import java.util.Map;
import java.util.Set;
import java.util.regex.Matcher;
import java.util.regex.Pattern;
import java.util.stream.Stream;
import javax.tools.ToolProvider;

/** Compiles the examples of README.md as they stand there, and holds every answer that they show against the class. */
public final class ReadmeTest {
    private static final Map<String, Long> CONSTANTS =
        Map.of("NONE", -1L, "UNKNOWN", -101L, "OUTSIDE", -102L, "STATE", -103L, "FULL", -104L);
    // A call and its answer; what follows the colon only explains it.
    private static final Pattern SHOWN = Pattern.compile("(x\\.\\w+\\(.*\\)); +// (-?\\d+|[A-Z]+)(: .*)?");
    private static final Check check = new Check();

    private final List<String> calls = new ArrayList<>();
    private final List<String> answers = new ArrayList<>();

    public static void main(String[] args) throws Exception {
        List<String> page = Files.readAllLines(Path.of("README.md"));
        new ReadmeTest().examples(page);
        errorTable(page);
        methodsAreNamed(String.join("\n", page));
        testsAreNamed(String.join("\n", page));
        check.end();
    }

    private void examples(List<String> page) throws Exception {
        String source = source(page);
        long[] got = run(source);
        for (int at = 0; at < calls.size(); at++) {
            check.due("README: " + calls.get(at), got[at], value(answers.get(at)));
        }
        check.holds("the examples show answers", calls.size() > 20);
        check.holds("the examples show every error: " + answers, answers.containsAll(CONSTANTS.keySet()));
    }

    private static long value(String answer) {
        Long constant = CONSTANTS.get(answer);
        return constant == null ? Long.parseLong(answer) : constant;
    }

    // The examples one after the other, as the later ones go on with the object of the first.
    private String source(List<String> page) {
        StringBuilder source = new StringBuilder("public final class ReadmeExample {\n"
            + "public static void run(java.util.List<Long> answers) {\n");
        boolean inExample = false;
        for (String line : page) {
            if (line.startsWith("```")) {
                inExample = line.equals("```java");
            } else if (inExample) {
                source.append(statement(line)).append('\n');
            }
        }
        return source.append("}\n}\n").toString();
    }

    private String statement(String line) {
        Matcher shown = SHOWN.matcher(line);
        boolean isShown = shown.matches();
        check.holds("README shows the answer of " + line, isShown || !line.startsWith("x."));
        if (!isShown) {
            return line;
        }
        calls.add(shown.group(1));
        answers.add(shown.group(2));
        return "answers.add((long) " + shown.group(1) + ");";
    }

    private long[] run(String source) throws Exception {
        Path place = Files.createTempDirectory("readme");
        try {
            Path file = Files.writeString(place.resolve("ReadmeExample.java"), source);
            int failed = ToolProvider.getSystemJavaCompiler().run(null, null, null, "-d", place.toString(), "-cp",
                System.getProperty("java.class.path"), file.toString());
            check.due("compiling the examples of README", failed, 0);
            List<Long> got = new ArrayList<>();
            try (URLClassLoader loader = new URLClassLoader(new URL[] {place.toUri().toURL()})) {
                loader.loadClass("ReadmeExample").getMethod("run", List.class).invoke(null, got);
            }
            check.due("number of answers", got.size(), calls.size());
            return got.stream().mapToLong(Long::longValue).toArray();
        } finally {
            remove(place);
        }
    }

    private static void remove(Path place) throws IOException {
        try (Stream<Path> files = Files.walk(place)) {
            files.sorted(Comparator.reverseOrder()).map(Path::toFile).forEach(File::delete);
        }
    }

    private static void errorTable(List<String> page) {
        Pattern row = Pattern.compile("\\| `([A-Z]+)` \\| (-\\d+) \\| .+ \\|");
        Set<String> told = new HashSet<>();
        for (String line : page) {
            Matcher matcher = row.matcher(line);
            if (matcher.matches() && told.add(matcher.group(1))) {
                check.due("README: " + line, Long.parseLong(matcher.group(2)), CONSTANTS.getOrDefault(matcher.group(1), 0L));
            }
        }
        check.holds("README tells of every constant: " + told, told.equals(CONSTANTS.keySet()));
    }

    private static void methodsAreNamed(String page) {
        for (Method method : DialMenus.class.getDeclaredMethods()) {
            if (Modifier.isPublic(method.getModifiers())) {
                check.holds("README names " + method.getName(), page.contains("`" + method.getName() + "("));
            }
        }
    }

    private static void testsAreNamed(String page) throws IOException {
        Set<String> there = new HashSet<>();
        try (Stream<Path> files = Files.list(Path.of("src/test/java"))) {
            files.map(file -> file.getFileName().toString().replace(".java", "")).forEach(there::add);
        }
        for (String name : there) {
            check.holds("README names " + name, page.contains("`" + name + "`"));
        }
        Matcher named = Pattern.compile("`(\\w+Test)`").matcher(page);
        while (named.find()) {
            check.holds("README names a test that is there: " + named.group(1), there.contains(named.group(1)));
        }
    }
}
