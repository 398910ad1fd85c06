import java.io.IOException;
import java.lang.reflect.Method;
import java.lang.reflect.Modifier;
import java.net.URL;
import java.net.URLClassLoader;
import java.nio.file.Files;
import java.nio.file.Path;
import java.util.ArrayList;
import java.util.List;
import java.util.Set;
import java.util.TreeSet;
import java.util.regex.Matcher;
import java.util.regex.Pattern;
import java.util.stream.Stream;
import javax.tools.ToolProvider;

/**
 * README.md: its Java is compiled as it stands there, and each call answers what is told behind it; every method of the
 * class has such a call, and every test of the project has its name there.
 */
public final class ReadmeTest {
    private static final Path README = Path.of("README.md");
    private static final Path TESTS = Path.of("src/test/java");
    /** A call, and behind it, in a comment, the answer: a number, true or false; then maybe what it means. */
    private static final Pattern TOLD =
        Pattern.compile("(?:(int|long|boolean) (\\w+) = )?([^=/]+);\\s*// (-?\\d+|true|false)(?:: .*)?");
    private static final Pattern MADE = Pattern.compile("TreatyHouse \\w+ = new TreatyHouse\\(\\);\\s*// .*");
    private static final Check check = new Check();

    public static void main(String[] args) throws Exception {
        List<String> lines = Files.readAllLines(README);
        List<String[]> told = answers(program(lines));
        for (String[] row : told) {
            check.due(row[0], row[1], row[2]);
        }
        namesEveryCall(told);
        namesEveryTest(String.join("\n", lines));
        check.end();
    }

    /** A program of the Java of all blocks, one behind the other, which keeps each call's answer and the one told. */
    private static String program(List<String> lines) {
        StringBuilder body = new StringBuilder();
        boolean isJava = false;
        for (int i = 0; i < lines.size(); i++) {
            String line = lines.get(i).strip();
            if (line.startsWith("```")) {
                isJava = line.equals("```java");
            } else if (isJava) {
                body.append(statement("README.md, line " + (i + 1), line)).append('\n');
            }
        }
        return "public final class ReadmeCalls {\n"
            + "public static java.util.List<String[]> answers() {\n"
            + "java.util.List<String[]> told = new java.util.ArrayList<>();\n"
            + body + "return told;\n}\n}\n";
    }

    private static String statement(String place, String line) {
        Matcher told = TOLD.matcher(line);
        if (!told.matches()) {
            check.due(place + " tells an answer, if a comment stands there", line.contains("//")
                && !MADE.matcher(line).matches(), false);
            return line;
        }
        boolean isKept = told.group(1) != null;
        String made = isKept ? told.group(1) + " " + told.group(2) + " = " + told.group(3) + ";\n" : "";
        String name = place + ": " + told.group(3).replace("\"", "\\\"");
        return made + "told.add(new String[] {\"" + name + "\", String.valueOf("
            + (isKept ? told.group(2) : told.group(3)) + "), \"" + told.group(4) + "\"});";
    }

    @SuppressWarnings("unchecked")
    private static List<String[]> answers(String program) throws Exception {
        Path place = Files.createTempDirectory("readme");
        Path source = place.resolve("ReadmeCalls.java");
        Path made = place.resolve("ReadmeCalls.class");
        try {
            Files.writeString(source, program);
            int failed = ToolProvider.getSystemJavaCompiler().run(null, null, null, "-cp",
                System.getProperty("java.class.path"), "-d", place.toString(), source.toString());
            check.due("README.md's Java is compiled", failed, 0);
            if (failed != 0) {
                return List.of();
            }
            try (URLClassLoader loader = new URLClassLoader(new URL[] {place.toUri().toURL()})) {
                return (List<String[]>) loader.loadClass("ReadmeCalls").getMethod("answers").invoke(null);
            }
        } finally {
            Files.deleteIfExists(made);
            Files.deleteIfExists(source);
            Files.deleteIfExists(place);
        }
    }

    private static void namesEveryCall(List<String[]> told) {
        for (Method method : TreatyHouse.class.getDeclaredMethods()) {
            if (Modifier.isPublic(method.getModifiers())) {
                boolean isTold = told.stream().anyMatch(row -> row[0].contains("house." + method.getName() + "("));
                check.due("README.md tells an answer of " + method.getName(), isTold, true);
            }
        }
    }

    private static void namesEveryTest(String readme) throws IOException {
        Set<String> tests = new TreeSet<>();
        try (Stream<Path> files = Files.list(TESTS)) {
            files.map(file -> file.getFileName().toString().replace(".java", "")).forEach(tests::add);
        }
        List<String> named = new ArrayList<>();
        Matcher name = Pattern.compile("`(\\w+Test)`").matcher(readme);
        while (name.find()) {
            named.add(name.group(1));
        }
        for (String test : tests) {
            check.due("README.md names " + test, readme.contains("`" + test + "`"), true);
        }
        for (String test : named) {
            check.due("there is " + test, tests.contains(test), true);
        }
    }
}
