import java.io.IOException;
import java.lang.reflect.Method;
import java.lang.reflect.Modifier;
import java.nio.charset.StandardCharsets;
import java.nio.file.DirectoryStream;
import java.nio.file.Files;
import java.nio.file.Path;
import java.util.ArrayList;
import java.util.Collections;
import java.util.List;
import java.util.TreeSet;
import java.util.regex.Matcher;
import java.util.regex.Pattern;

/**
 * README.md: its programs are compiled and run, and print the answers that stand behind their calls; and it names
 * every method and every test. Run it in the project's folder.
 */
public final class ReadmeTest {
    private static final Path README = Path.of("README.md");
    private static final String PROGRAM = "src/main/java/StreamFuser.java";
    private static final Path TESTS = Path.of("src/test/java");

    /** What a command prints, and its errors behind that. */
    private static String printed(Path folder, String... command) throws IOException, InterruptedException {
        Path out = folder.resolve("printed");
        Process process = new ProcessBuilder(command).redirectErrorStream(true).redirectOutput(out.toFile()).start();
        process.getOutputStream().close();
        int code = process.waitFor();
        String text = Files.readString(out);
        Check.due(String.join(" ", command) + " ended with " + text + ", code", code, 0);
        return text;
    }

    private static void delete(Path folder) throws IOException {
        try (DirectoryStream<Path> files = Files.newDirectoryStream(folder)) {
            for (Path file : files) Files.delete(file);
        }
        Files.delete(folder);
    }

    private static List<String> answersOf(String name, String program) throws IOException, InterruptedException {
        Path folder = Files.createTempDirectory("readme");
        try {
            Path file = folder.resolve(name + ".java");
            Files.write(file, program.getBytes(StandardCharsets.UTF_8));
            printed(folder, "javac", "-d", folder.toString(), PROGRAM, file.toString());
            String text = printed(folder, "java", "-cp", folder.toString(), name);
            return text.isEmpty() ? new ArrayList<>() : List.of(text.split("\\R"));
        } finally {
            delete(folder);
        }
    }

    /** The lines of a program that print a call's answer, and the answers that stand behind them. */
    private static void told(String program, List<String> calls, List<String> answers) {
        Pattern line = Pattern.compile("\\s*System\\.out\\.println\\((.*)\\);\\s*// (-?\\d+): .*");
        for (String one : program.split("\n")) {
            Matcher m = line.matcher(one);
            if (m.matches()) {
                calls.add(m.group(1));
                answers.add(m.group(2));
            } else {
                Check.that("an answer stands behind: " + one, !one.contains("println"));
            }
        }
    }

    private static void program(String program) throws IOException, InterruptedException {
        Matcher name = Pattern.compile("public final class (\\w+) \\{").matcher(program);
        boolean whole = name.find();
        Check.that("a whole program: " + program, whole);
        if (!whole) return;
        List<String> calls = new ArrayList<>();
        List<String> due = new ArrayList<>();
        told(program, calls, due);
        List<String> got = answersOf(name.group(1), program);
        Check.due(name.group(1) + ": how many answers", got.size(), due.size());
        for (int i = 0; i < due.size() && i < got.size(); i++) {
            Check.same(name.group(1) + ": " + calls.get(i), got.get(i), due.get(i));
        }
    }

    private static void programs(String readme) throws IOException, InterruptedException {
        Matcher m = Pattern.compile("(?s)\n```java\n(.*?)\n```\n").matcher(readme);
        int programs = 0;
        while (m.find()) {
            programs++;
            program(m.group(1));
        }
        Check.due("programs", programs, 2);
    }

    private static void methods(String readme) {
        for (Method m : StreamFuser.class.getDeclaredMethods()) {
            if (!Modifier.isPublic(m.getModifiers())) continue;
            String names = String.join(", ", Collections.nCopies(m.getParameterCount(), "[a-z]+"));
            String call = "`" + m.getName() + "\\(" + names + "\\)`";
            Check.that("it names " + call, Pattern.compile(call).matcher(readme).find());
        }
    }

    private static void tests(String readme) throws IOException {
        TreeSet<String> there = new TreeSet<>();
        try (DirectoryStream<Path> files = Files.newDirectoryStream(TESTS, "*Test.java")) {
            for (Path file : files) there.add(file.getFileName().toString().replace(".java", ""));
        }
        TreeSet<String> named = new TreeSet<>();
        Matcher m = Pattern.compile("(?m)^\\| (\\w+Test) \\|").matcher(readme);
        while (m.find()) named.add(m.group(1));
        Check.same("the tests that it names", named.toString(), there.toString());
    }

    public static void main(String[] args) throws IOException, InterruptedException {
        String readme = Files.readString(README);
        programs(readme);
        methods(readme);
        tests(readme);
        Check.end("ReadmeTest");
    }
}
