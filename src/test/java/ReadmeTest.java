import java.io.ByteArrayOutputStream;
import java.io.IOException;
import java.io.PrintStream;
import java.net.URL;
import java.net.URLClassLoader;
import java.nio.file.Files;
import java.nio.file.Path;
import java.util.ArrayList;
import java.util.List;
import java.util.regex.Matcher;
import java.util.regex.Pattern;
import java.util.stream.Stream;
import javax.tools.JavaCompiler;
import javax.tools.ToolProvider;

/** What README.md says is true: its program prints what stands behind the lines, and it names all tests of the project, and no other. */
public final class ReadmeTest {
    private static final Check check = new Check();
    private static final Pattern PRINTS = Pattern.compile("System\\.out\\.println\\((.*)\\); +// ([^:]+):");

    public static void main(String[] args) throws Exception {
        String readme = Files.readString(Path.of("README.md"));
        program(readme);
        names(readme);
        tables(readme);
        check.end();
    }

    private static void program(String readme) throws Exception {
        Matcher block = Pattern.compile("(?s)```java\n(.*?)```").matcher(readme);
        check.due("README has a program", block.find(), true);
        String source = block.group(1);
        List<String> asked = new ArrayList<>();
        List<String> told = new ArrayList<>();
        Matcher line = PRINTS.matcher(source);
        while (line.find()) {
            asked.add(line.group(1));
            told.add(line.group(2));
        }
        check.due("every line that prints says what", asked.size(), source.split("println", -1).length - 1);
        List<String> printed = run(source);
        check.due("lines printed", printed.size(), told.size());
        for (int i = 0; i < told.size() && i < printed.size(); i++) {
            String what = asked.get(i) + " prints " + printed.get(i) + ", README says " + told.get(i);
            check.due(what, printed.get(i).equals(told.get(i)), true);
        }
    }

    private static List<String> run(String source) throws Exception {
        Path folder = Files.createTempDirectory("readme");
        try {
            Path file = Files.writeString(folder.resolve("Example.java"), source);
            JavaCompiler javac = ToolProvider.getSystemJavaCompiler();
            String path = System.getProperty("java.class.path");
            int refused = javac.run(null, null, null, "--release", "17", "-cp", path, "-d", folder.toString(), file.toString());
            check.due("the program compiles", refused, 0);
            return refused == 0 ? outputOf(folder) : List.of();
        } finally {
            remove(folder);
        }
    }

    private static List<String> outputOf(Path folder) throws Exception {
        PrintStream usual = System.out;
        ByteArrayOutputStream out = new ByteArrayOutputStream();
        URL[] places = {folder.toUri().toURL()};
        try (URLClassLoader loader = new URLClassLoader(places, ReadmeTest.class.getClassLoader())) {
            System.setOut(new PrintStream(out, true));
            loader.loadClass("Example").getMethod("main", String[].class).invoke(null, (Object) new String[0]);
        } finally {
            System.setOut(usual);
        }
        return out.toString().lines().toList();
    }

    private static void remove(Path folder) throws IOException {
        try (Stream<Path> files = Files.list(folder)) {
            for (Path file : files.toList()) {
                Files.delete(file);
            }
        }
        Files.delete(folder);
    }

    private static void names(String readme) throws IOException {
        List<String> files = ownFiles();
        for (String name : files) {
            check.due("README names " + name, readme.contains("`" + name + "`"), true);
        }
        Matcher named = Pattern.compile("`(\\w+Test)`").matcher(readme);
        while (named.find()) {
            check.due("there is a " + named.group(1), files.contains(named.group(1)), true);
        }
        check.due("README has the command", readme.contains("\n.ci/run\n"), true);
        check.due("the command is there", Files.isExecutable(Path.of(".ci/run")), true);
    }

    /** Not those under ../shared/tests: others may come to stand there. */
    private static List<String> ownFiles() throws IOException {
        try (Stream<Path> files = Files.list(Path.of("src/test/java"))) {
            return files.map(f -> f.getFileName().toString()).filter(n -> n.endsWith(".java"))
                    .map(n -> n.substring(0, n.length() - 5)).sorted().toList();
        }
    }

    /** Each STATUS but 0, 1 to 9, and each FAULT, 1 to 7, has a row. */
    private static void tables(String readme) {
        StringBuilder numbers = new StringBuilder();
        Matcher row = Pattern.compile("(?m)^\\| (\\d) \\| ").matcher(readme);
        while (row.find()) {
            numbers.append(row.group(1));
        }
        check.due("rows of README's tables: " + numbers, numbers.toString().equals("1234567891234567"), true);
    }
}
