import java.io.ByteArrayOutputStream;
import java.io.IOException;
import java.io.PrintStream;
import java.net.URL;
import java.net.URLClassLoader;
import java.nio.charset.StandardCharsets;
import java.nio.file.Files;
import java.nio.file.Path;
import java.util.ArrayList;
import java.util.List;
import java.util.Set;
import java.util.TreeSet;
import java.util.regex.Matcher;
import java.util.regex.Pattern;
import java.util.stream.Collectors;
import java.util.stream.Stream;
import javax.tools.ToolProvider;

/** README.md says what is so: its example answers as it tells, and the tests it names are those there are. */
final class ReadmeTest {
    private static final Check check = new Check("ReadmeTest");

    private ReadmeTest() {
    }

    /** The source is the first argument, README.md the third. */
    public static void main(String[] args) throws Exception {
        Path source = Path.of(args.length > 0 ? args[0] : "src/main/java/ItalicsLean.java");
        Path readme = Path.of(args.length > 2 ? args[2] : "README.md");
        String page = Files.readString(readme);
        Path root = readme.toAbsolutePath().getParent();
        theExample(page, source);
        theTests(page, root.resolve("src/test/java"));
        thePaths(page, root);
        check.finish();
    }

    private static void theExample(String page, Path source) throws Exception {
        String example = block(page, "java");
        Path classes = Path.of(ReadmeTest.class.getProtectionDomain().getCodeSource().getLocation().toURI());
        Path at = Files.createTempDirectory(classes, "readme");
        Path file = at.resolve("Example.java");
        Files.writeString(file, example);
        int failed = ToolProvider.getSystemJavaCompiler()
                .run(null, null, null, "-d", at.toString(), source.toString(), file.toString());
        check.due(0, "the example compiles", failed, 0);
        List<String> told = answersTold(example);
        List<String> printed = failed == 0 ? run(at) : List.of();
        check.due(0, "lines that the example prints", printed.size(), told.size());
        check.due(0, "the example has calls", told.size() > 10, true);
        for (int i = 0; i < Math.min(told.size(), printed.size()); i++) {
            String what = "line " + (i + 1) + " of the example prints " + printed.get(i) + " and tells " + told.get(i);
            check.due(0, what, told.get(i).equals(printed.get(i)), true);
        }
        remove(at);
    }

    private static List<String> answersTold(String example) {
        List<String> told = new ArrayList<>();
        for (String line : example.split("\n")) {
            if (line.contains("println")) {
                Matcher answer = Pattern.compile("; +// (true|false|-?\\d+)\\b").matcher(line);
                told.add(answer.find() ? answer.group(1) : "nothing");
            }
        }
        return told;
    }

    private static List<String> run(Path at) throws Exception {
        PrintStream before = System.out;
        ByteArrayOutputStream out = new ByteArrayOutputStream();
        // The example has a class of the same name as the one under test, compiled by itself.
        try (URLClassLoader loader = new URLClassLoader(new URL[] {at.toUri().toURL()}, null)) {
            System.setOut(new PrintStream(out, true, StandardCharsets.US_ASCII));
            loader.loadClass("Example").getMethod("main", String[].class).invoke(null, (Object) new String[0]);
        } finally {
            System.setOut(before);
        }
        return out.toString(StandardCharsets.US_ASCII).lines().toList();
    }

    private static void theTests(String page, Path directory) throws IOException {
        Set<String> there;
        try (Stream<Path> files = Files.list(directory)) {
            there = files.map(file -> file.getFileName().toString()).filter(name -> name.endsWith(".java"))
                    .map(name -> name.substring(0, name.length() - 5)).collect(Collectors.toCollection(TreeSet::new));
        }
        for (String name : there) {
            check.due(0, "README.md tells of " + name, page.contains("`" + name + "`"), true);
        }
        Matcher named = Pattern.compile("\\b(\\w+Test|EdgesOf\\w+)\\b").matcher(page);
        while (named.find()) {
            check.due(0, "there is a " + named.group(), there.contains(named.group()), true);
        }
    }

    /** What stands between ` and ` and is the path of something is there. */
    private static void thePaths(String page, Path root) {
        Matcher named = Pattern.compile("`((?:\\.\\./|\\.ci/|src/)[\\w./]*)`").matcher(page);
        int many = 0;
        while (named.find()) {
            many++;
            check.due(0, "there is a " + named.group(1), Files.exists(root.resolve(named.group(1))), true);
        }
        check.due(0, "README.md names paths", many > 0, true);
    }

    private static String block(String page, String kind) {
        Matcher block = Pattern.compile("(?s)```" + kind + "\n(.*?)```").matcher(page);
        return block.find() ? block.group(1) : "";
    }

    private static void remove(Path directory) throws IOException {
        List<Path> files;
        try (Stream<Path> all = Files.walk(directory)) {
            files = new ArrayList<>(all.toList());
        }
        for (int i = files.size() - 1; i >= 0; i--) {
            Files.delete(files.get(i));
        }
    }
}
