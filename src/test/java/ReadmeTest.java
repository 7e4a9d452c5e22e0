import java.io.IOException;
import java.lang.reflect.Field;
import java.lang.reflect.Method;
import java.lang.reflect.Modifier;
import java.net.URL;
import java.net.URLClassLoader;
import java.nio.file.Files;
import java.nio.file.Path;
import java.util.ArrayList;
import java.util.List;
import java.util.Set;
import java.util.TreeSet;
import java.util.concurrent.Callable;
import java.util.regex.Matcher;
import java.util.regex.Pattern;
import java.util.stream.Stream;
import javax.tools.ToolProvider;

/** What README.md says: its Java is compiled and run, its lists of calls and of tests are whole. */
public final class ReadmeTest {
    private static final Path TESTS = Path.of("src/test/java");
    /** A call, and behind it what it answers: a number, or the name of a constant. */
    private static final Pattern TOLD = Pattern.compile("\\s*(x\\.\\w+\\(.*\\));\\s*// (-?\\d+|[A-Z]+)(:.*)?");
    private static final Due due = new Due("ReadmeTest");

    public static void main(String[] args) throws Exception {
        String page = Files.readString(Path.of("README.md"));
        String code = blocks(page);
        answers(code);
        calls(code);
        tests(page);
        commands(page);
        due.end();
    }

    private static String blocks(String page) {
        StringBuilder code = new StringBuilder();
        Matcher block = Pattern.compile("(?ms)^```java\n(.*?)^```$").matcher(page);
        while (block.find()) {
            code.append(block.group(1));
        }
        return code.toString();
    }

    private static void answers(String code) throws Exception {
        List<String> calls = new ArrayList<>();
        List<Long> wanted = new ArrayList<>();
        StringBuilder body = new StringBuilder();
        for (String line : code.split("\n")) {
            Matcher told = TOLD.matcher(line);
            if (told.matches()) {
                body.append("got.add((long) ").append(told.group(1)).append(");\n");
                calls.add(told.group(1));
                wanted.add(number(told.group(2)));
            } else {
                due.is("an answer that can be read: " + line, line.contains("//") ? 1 : 0, 0);
                body.append(line).append('\n');
            }
        }
        List<Long> got = run(body.toString());
        due.is("answers told in README.md", got.size(), calls.size());
        for (int k = 0; k < calls.size() && k < got.size(); k++) {
            due.is("README.md, " + calls.get(k), got.get(k), wanted.get(k));
        }
    }

    private static long number(String told) throws ReflectiveOperationException {
        if (!Character.isUpperCase(told.charAt(0))) {
            return Long.parseLong(told);
        }
        Field constant = WheelWeeks.class.getField(told);
        return constant.getInt(null);
    }

    /** Compiles the code and runs it, with a list of what its calls answer. */
    private static List<Long> run(String body) throws Exception {
        Path dir = Files.createTempDirectory("readme");
        Path file = dir.resolve("ReadmeCode.java");
        try {
            Files.writeString(file, "import java.util.*;\n"
                + "public final class ReadmeCode implements java.util.concurrent.Callable<List<Long>> {\n"
                + "public List<Long> call() {\nList<Long> got = new ArrayList<>();\n" + body + "return got;\n}\n}\n");
            int exit = ToolProvider.getSystemJavaCompiler().run(null, null, null,
                "-cp", System.getProperty("java.class.path"), "-d", dir.toString(), file.toString());
            due.is("the Java of README.md compiles, exit code", exit, 0);
            return exit == 0 ? called(dir) : List.of();
        } finally {
            Files.deleteIfExists(file);
            Files.deleteIfExists(dir.resolve("ReadmeCode.class"));
            Files.deleteIfExists(dir);
        }
    }

    private static List<Long> called(Path dir) throws Exception {
        try (URLClassLoader loader = new URLClassLoader(new URL[] {dir.toUri().toURL()})) {
            Object code = loader.loadClass("ReadmeCode").getDeclaredConstructor().newInstance();
            List<Long> got = new ArrayList<>();
            for (Object answer : (List<?>) ((Callable<?>) code).call()) {
                got.add((Long) answer);
            }
            return got;
        }
    }

    private static void calls(String code) {
        for (Method m : WheelWeeks.class.getDeclaredMethods()) {
            if (Modifier.isPublic(m.getModifiers())) {
                due.is("README.md shows " + m.getName() + "()", code.contains("x." + m.getName() + "(") ? 1 : 0, 1);
            }
        }
    }

    /** The list of tests names those that there are, and each promise stands with one of them. */
    private static void tests(String page) throws IOException {
        Set<String> there = new TreeSet<>();
        try (Stream<Path> files = Files.list(TESTS)) {
            files.map(f -> f.getFileName().toString()).filter(f -> f.endsWith("Test.java"))
                .forEach(f -> there.add(f.substring(0, f.length() - ".java".length())));
        }
        Set<String> named = new TreeSet<>();
        boolean[] tested = new boolean[44];
        Matcher line = Pattern.compile("(?m)^\\| `(\\w+)` \\| (.*) \\|$").matcher(page);
        while (line.find()) {
            named.add(line.group(1));
            markPromises(line.group(2), tested);
        }
        due.is("tests in README.md: " + named + ", there are: " + there, named.equals(there) ? 1 : 0, 1);
        for (int promise = 1; promise < tested.length; promise++) {
            due.is("README.md names a test of promise " + promise, tested[promise] ? 1 : 0, 1);
        }
    }

    private static void markPromises(String list, boolean[] tested) {
        Matcher part = Pattern.compile("(\\d+)(?: to (\\d+))?").matcher(list);
        while (part.find()) {
            int from = Integer.parseInt(part.group(1));
            int to = part.group(2) == null ? from : Integer.parseInt(part.group(2));
            for (int promise = from; promise <= to; promise++) {
                tested[promise] = true;
            }
        }
    }

    /** Commands stand four blanks in; the files that they name are there. */
    private static void commands(String page) {
        List<String> lines = new ArrayList<>();
        Matcher line = Pattern.compile("(?m)^    (\\S.*)$").matcher(page.replaceAll("(?ms)^```java\n.*?^```$", ""));
        while (line.find()) {
            lines.add(line.group(1));
        }
        due.is("README.md tells .ci/run", lines.contains(".ci/run") ? 1 : 0, 1);
        due.is(".ci/run can be run", Files.isExecutable(Path.of(".ci/run")) ? 1 : 0, 1);
        for (String command : lines) {
            Matcher test = Pattern.compile("\\b(\\w+Test)\\b").matcher(command);
            while (test.find()) {
                due.is(command + ": " + test.group(1) + " is there",
                    Files.exists(TESTS.resolve(test.group(1) + ".java")) ? 1 : 0, 1);
            }
        }
    }
}
