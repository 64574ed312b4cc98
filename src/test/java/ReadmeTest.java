import java.io.IOException;
import java.lang.reflect.Method;
import java.lang.reflect.Modifier;
import java.net.URL;
import java.net.URLClassLoader;
import java.nio.file.Files;
import java.nio.file.Path;
import java.util.Arrays;
import java.util.List;
import java.util.Set;
import java.util.TreeSet;
import java.util.regex.Matcher;
import java.util.regex.Pattern;
import java.util.stream.Collectors;
import java.util.stream.Stream;
import javax.tools.ToolProvider;

/** README.md holds when it is followed: its examples answer what they say, and its command runs all the tests. */
public final class ReadmeTest {
    private static final String README = Held.read("README.md");
    private static final Path TESTS = Path.of("src/test/java");
    private static final Pattern EXAMPLE = Pattern.compile("(?s)```java\n(.*?)```");
    private static final Pattern ANSWER = Pattern.compile("(?m)^(\\w\\.\\w+\\(.*?\\)); +// (-?\\d+):");
    private static int wrong = 0;

    public static void main(String[] args) throws Exception {
        examples();
        calls();
        tests();
        command();
        System.out.println(wrong == 0 ? "README.md holds" : "README.md does not hold: " + wrong);
        if (wrong != 0) {
            System.exit(1);
        }
    }

    private static void check(boolean holds, String fault) {
        if (!holds) {
            wrong++;
            System.out.println(fault);
        }
    }

    // ---- the examples

    private static void examples() throws Exception {
        Matcher example = EXAMPLE.matcher(README);
        int found = 0;
        while (example.find()) {
            found++;
            String name = "Example" + found;
            List<?> told = run(name, sourceOf(name, example.group(1)));
            for (Object one : told) {
                check(false, "example " + found + ": " + one);
            }
        }
        check(found == 2, found + " examples");
    }

    /** The example as it stands, each line with an answer behind it being compared with that. */
    private static String sourceOf(String name, String example) {
        Matcher answers = ANSWER.matcher(example);
        check(answers.find(), name + " tells no answer");
        for (String line : example.split("\n")) {
            boolean asks = line.matches("\\w\\.\\w+\\(.*");
            check(!asks || ANSWER.matcher(line).find(), "no answer is told of " + line);
        }
        String body = answers.reset().replaceAll("due(told, \"$1\", $1, $2L); //");
        return "public class " + name + " {\n"
            + "static void due(java.util.List<String> told, String call, long got, long want) {\n"
            + "if (got != want) { told.add(call + \" answers \" + got + \", told is \" + want); }\n}\n"
            + "public static java.util.List<String> told() {\n"
            + "java.util.List<String> told = new java.util.ArrayList<>();\n" + body
            + "return told;\n}\n}\n";
    }

    private static List<?> run(String name, String source) throws Exception {
        Path folder = Files.createTempDirectory("readme");
        Path file = folder.resolve(name + ".java");
        Path compiled = folder.resolve(name + ".class");
        try {
            Files.writeString(file, source);
            int code = ToolProvider.getSystemJavaCompiler().run(null, System.out, System.out, "-d", folder.toString(),
                "-cp", System.getProperty("java.class.path"), file.toString());
            if (code != 0) {
                return List.of("does not compile");
            }
            try (URLClassLoader loader = new URLClassLoader(new URL[] {folder.toUri().toURL()})) {
                return (List<?>) loader.loadClass(name).getMethod("told").invoke(null);
            }
        } finally {
            Files.deleteIfExists(file);
            Files.deleteIfExists(compiled);
            Files.deleteIfExists(folder);
        }
    }

    /** No call of the class is left out of the examples and of the table. */
    private static void calls() {
        for (Method m : TwoGoats.class.getDeclaredMethods()) {
            boolean isPublic = Modifier.isPublic(m.getModifiers());
            boolean named = README.contains("." + m.getName() + "(") || README.contains("`" + m.getName());
            check(!isPublic || named, "no word of " + m.getName());
        }
    }

    // ---- the tests

    private static Set<String> namesIn(Path folder) throws IOException {
        try (Stream<Path> all = Files.walk(folder)) {
            return all.filter(Files::isRegularFile).map(file -> folder.relativize(file).toString())
                .collect(Collectors.toCollection(TreeSet::new));
        }
    }

    /** A file that can be run and is not named as a test would be left out by the command, and so would be a folder. */
    private static void tests() throws IOException {
        Set<String> told = new TreeSet<>();
        Matcher name = Pattern.compile("`(\\w+Test)`").matcher(README);
        while (name.find()) {
            told.add(name.group(1) + ".java");
        }
        Set<String> found = new TreeSet<>();
        for (String file : namesIn(TESTS)) {
            boolean isTest = file.endsWith("Test.java");
            boolean runs = Held.read(TESTS.resolve(file).toString()).contains("public static void main(");
            check(isTest == runs, file + (runs ? " is run by nothing" : " cannot be run"));
            check(!file.contains("/"), file + " is in a folder of its own");
            if (isTest) {
                found.add(file);
            }
        }
        check(told.equals(found), "told are " + told + ", found are " + found);
        for (String file : namesIn(Path.of("../shared/tests"))) {
            check(!file.endsWith(".java") || !file.contains("/"), "../shared/tests/" + file + " is run by nothing");
        }
    }

    private static void command() {
        Path script = Path.of(".ci/run");
        check(README.contains("```\n.ci/run\n```"), "the command is not told");
        check(Files.isExecutable(script), "the command cannot be run");
        String text = Held.read(".ci/run");
        for (String folder : Arrays.asList("src/test/java/*Test.java", "../shared/tests/*.java")) {
            check(text.contains(folder), "the command does not go through " + folder);
        }
    }
}
