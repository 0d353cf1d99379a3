import java.io.File;
import java.io.IOException;
import java.nio.charset.StandardCharsets;
import java.nio.file.Files;
import java.nio.file.Path;
import java.util.ArrayList;
import java.util.List;
import java.util.Set;
import java.util.TreeSet;
import java.util.function.IntSupplier;
import java.util.regex.Matcher;
import java.util.regex.Pattern;
import javax.tools.JavaCompiler;
import javax.tools.ToolProvider;

/** README.md's example answers what is said there, and its table of tests has every test that there is. */
public final class ReadmeTest {
    private static final Due DUE = new Due("ReadmeTest");
    private static final Pattern EXAMPLE = Pattern.compile("(?s)```java\n(.*?)```");
    private static final Pattern ANSWER = Pattern.compile("(?m)^x\\.(.*);\\s*// (-?\\d+): .*$");
    private static final Pattern ROW = Pattern.compile("(?m)^\\| (\\w+Test) \\|");

    public static void main(String[] args) throws IOException, ReflectiveOperationException {
        String readme = Files.readString(Path.of("README.md"), StandardCharsets.UTF_8);
        example(readme);
        table(readme);
        DUE.finish();
    }

    /** What the example's compiled code calls: a call of it and the answer that README.md tells. */
    public static void answers(String call, IntSupplier got, int told) {
        DUE.due(call, got.getAsInt(), told);
    }

    private static void example(String readme) throws IOException, ReflectiveOperationException {
        Matcher block = EXAMPLE.matcher(readme);
        DUE.due("an example in README.md", block.find() ? 1 : 0, 1);
        String code = ANSWER.matcher(block.group(1)).replaceAll("ReadmeTest.answers(\"$1\", () -> x.$1, $2);");
        DUE.due("answers that are told in it", (int) ANSWER.matcher(block.group(1)).results().count() >= 10 ? 1 : 0, 1);
        Path folder = Files.createTempDirectory("readme");
        Path file = folder.resolve("Example.java");
        Files.writeString(file, "public final class Example { public static void main(String[] args) {\n" + code + "}}\n");
        JavaCompiler compiler = ToolProvider.getSystemJavaCompiler();
        int failed = compiler.run(null, null, null, "-cp", System.getProperty("java.class.path"), "-d", folder.toString(), file.toString());
        DUE.due("compiling it", failed, 0);
        if (failed == 0) {
            runMain(folder);
        }
        for (File made : folder.toFile().listFiles()) {
            Files.delete(made.toPath());
        }
        Files.delete(folder);
    }

    private static void runMain(Path folder) throws IOException, ReflectiveOperationException {
        try (java.net.URLClassLoader loader = new java.net.URLClassLoader(new java.net.URL[] {folder.toUri().toURL()})) {
            loader.loadClass("Example").getMethod("main", String[].class).invoke(null, (Object) new String[0]);
        }
    }

    private static void table(String readme) {
        Set<String> told = new TreeSet<>();
        Matcher row = ROW.matcher(readme);
        while (row.find()) {
            told.add(row.group(1));
        }
        List<String> tests = new ArrayList<>();
        for (String name : new File("src/test/java").list()) {
            if (name.endsWith("Test.java")) {
                tests.add(name.substring(0, name.length() - ".java".length()));
            }
        }
        for (String test : tests) {
            DUE.due(test + " in the table of README.md", told.contains(test) ? 1 : 0, 1);
        }
        DUE.due("tests in the table of README.md", told.size(), tests.size());
    }
}
