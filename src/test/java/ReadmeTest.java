import java.io.File;
import java.io.IOException;
import java.lang.reflect.Method;
import java.lang.reflect.Modifier;
import java.net.URL;
import java.net.URLClassLoader;
import java.nio.file.Files;
import java.nio.file.Path;
import java.util.ArrayList;
import java.util.List;
import java.util.Set;
import java.util.TreeSet;
import java.util.regex.Matcher;
import java.util.regex.Pattern;
import java.util.stream.Stream;
import javax.tools.ToolProvider;

/** README.md: its examples answer what it tells, and its tables name all calls, constants and tests. */
public final class ReadmeTest {
    private static final Path README = Path.of("README.md");
    private static final Path TESTS = Path.of("src/test/java");
    private static final Pattern EXAMPLE = Pattern.compile("(?s)```java\n(.*?)```");
    private static final Pattern ANSWER = Pattern.compile("(?m)^int (\\w+) = (.*;) +// (-?\\d+): .*$");
    private static final Pattern CALL = Pattern.compile("(?m)^\\| `(\\w+)\\((.*?)\\)` \\|");
    private static final Pattern CONSTANT = Pattern.compile("(?m)^\\| `([A-Z_]+)` \\| (-\\d+) \\|");
    private static final Pattern TEST = Pattern.compile("(?m)^\\| `(\\w+Test)` \\|");

    private ReadmeTest() {
    }

    public static void main(String[] args) throws IOException, ReflectiveOperationException {
        Check check = new Check("ReadmeTest");
        String readme = Files.readString(README);
        examples(check, readme);
        calls(check, readme);
        constants(check, readme);
        tests(check, readme);
        check.end();
    }

    /** Each line with an answer becomes a line that asks for it. */
    private static void examples(Check check, String readme) throws IOException, ReflectiveOperationException {
        StringBuilder source = new StringBuilder("public final class Examples {\n");
        source.append("public static void due(java.util.List<String> wrong, String call, int got, int want) {\n");
        source.append("if (got != want) { wrong.add(call + \" answered \" + got + \", not \" + want); }\n}\n");
        source.append("public static void all(java.util.List<String> wrong) {\n");
        int answers = 0;
        Matcher example = EXAMPLE.matcher(readme);
        while (example.find()) {
            Matcher answer = ANSWER.matcher(example.group(1));
            source.append("{\n").append(answer.replaceAll("int $1 = $2 due(wrong, \"$1\", $1, $3);")).append("}\n");
            answers += (int) answer.reset().results().count();
        }
        source.append("}\n}\n");
        check.holds("there are examples: " + answers + " answers", answers > 0);
        List<String> wrong = new ArrayList<>();
        run(check, source.toString(), wrong);
        for (String told : wrong) {
            check.holds("README.md: " + told, false);
        }
    }

    private static void run(Check check, String source, List<String> wrong)
            throws IOException, ReflectiveOperationException {
        Path folder = Files.createTempDirectory("examples");
        Path file = folder.resolve("Examples.java");
        Files.writeString(file, source);
        int failed = ToolProvider.getSystemJavaCompiler().run(null, null, null, "-proc:none", "-cp",
                System.getProperty("java.class.path"), "-d", folder.toString(), file.toString());
        check.due("the examples compile", failed, 0);
        if (failed == 0) {
            try (URLClassLoader loader = new URLClassLoader(new URL[] {folder.toUri().toURL()})) {
                loader.loadClass("Examples").getMethod("all", List.class).invoke(null, wrong);
            }
        }
        for (File made : folder.toFile().listFiles()) {
            Files.delete(made.toPath());
        }
        Files.delete(folder);
    }

    private static void calls(Check check, String readme) {
        Set<String> due = new TreeSet<>();
        for (Method method : BeggingBoards.class.getDeclaredMethods()) {
            if (Modifier.isPublic(method.getModifiers())) {
                due.add(method.getName() + " " + method.getParameterCount());
            }
        }
        Set<String> told = new TreeSet<>();
        Matcher call = CALL.matcher(readme);
        while (call.find()) {
            String arguments = call.group(2);
            told.add(call.group(1) + " " + (arguments.isEmpty() ? 0 : arguments.split(",").length));
        }
        check.holds("the calls " + told + " are " + due, told.equals(due));
    }

    private static void constants(Check check, String readme) throws ReflectiveOperationException {
        int told = 0;
        Matcher constant = CONSTANT.matcher(readme);
        while (constant.find()) {
            told++;
            int number = BeggingBoards.class.getField(constant.group(1)).getInt(null);
            check.due(constant.group(1), number, Integer.parseInt(constant.group(2)));
        }
        check.due("constants", told, BeggingBoards.class.getFields().length);
    }

    private static void tests(Check check, String readme) throws IOException {
        Set<String> due = new TreeSet<>();
        try (Stream<Path> files = Files.list(TESTS)) {
            files.map(file -> file.getFileName().toString()).filter(name -> name.endsWith("Test.java"))
                    .forEach(name -> due.add(name.substring(0, name.length() - 5)));
        }
        Set<String> told = new TreeSet<>();
        Matcher test = TEST.matcher(readme);
        while (test.find()) {
            told.add(test.group(1));
        }
        check.holds("the tests " + told + " are " + due, told.equals(due));
    }
}
