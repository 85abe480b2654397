import java.io.ByteArrayOutputStream;
import java.io.IOException;
import java.io.OutputStream;
import java.lang.reflect.Method;
import java.nio.charset.StandardCharsets;
import java.nio.file.Files;
import java.nio.file.Path;
import java.util.ArrayList;
import java.util.Comparator;
import java.util.List;
import java.util.Set;
import java.util.TreeSet;
import java.util.regex.Matcher;
import java.util.regex.Pattern;
import java.util.stream.Collectors;
import java.util.stream.Stream;

/** What README.md shows is right: its example, its refusals, its commands, its list of tests. */
public final class ReadmeTest {
    private static final Path TESTS = Path.of("src/test/java");

    public static void main(String[] args) throws Exception {
        String readme = Files.readString(Path.of("README.md"));
        Path copy = copyOfTheProject();
        try {
            example(readme, copy);
            refusals(readme);
            constants(readme);
            commands(readme, copy);
            tests(readme);
        } finally {
            remove(copy);
        }
        Due.end("ReadmeTest");
    }

    private static List<String> blocks(String readme, String kind) {
        Matcher block = Pattern.compile("(?s)```" + kind + "\n(.*?)```").matcher(readme);
        return block.results().map(found -> found.group(1)).collect(Collectors.toList());
    }

    /** A directory like the project's own, with all that the commands need, in which they may write. */
    private static Path copyOfTheProject() throws IOException {
        Path top = Files.createTempDirectory("readme");
        Path project = Files.createDirectory(top.resolve("main"));
        List<Path> sources;
        try (Stream<Path> files = Files.walk(Path.of("src"))) {
            sources = files.collect(Collectors.toList());
        }
        for (Path source : sources) {
            Files.copy(source, project.resolve(source));
        }
        Files.createSymbolicLink(top.resolve("shared"), Path.of("../shared").toAbsolutePath().normalize());
        return top;
    }

    private static void remove(Path top) throws IOException {
        List<Path> all;
        try (Stream<Path> files = Files.walk(top)) {
            all = files.sorted(Comparator.reverseOrder()).collect(Collectors.toList());
        }
        for (Path path : all) {
            Files.delete(path);
        }
    }

    /** Runs a command in the copy and answers what it printed; it must end with 0. */
    private static String run(Path copy, String command) throws IOException, InterruptedException {
        Process process = new ProcessBuilder("sh", "-e", "-c", command).directory(copy.resolve("main").toFile())
            .redirectErrorStream(true).start();
        process.getOutputStream().close();
        OutputStream printed = new ByteArrayOutputStream();
        process.getInputStream().transferTo(printed);
        int code = process.waitFor();
        Due.yes("'" + command.trim() + "' ends with 0, not " + code + ": " + printed, code == 0);
        return ((ByteArrayOutputStream) printed).toString(StandardCharsets.UTF_8);
    }

    private static void example(String readme, Path copy) throws IOException, InterruptedException {
        List<String> programs = blocks(readme, "java");
        List<String> printed = blocks(readme, "text");
        Due.is("examples", programs.size(), 1);
        Due.is("what they print", printed.size(), 1);
        Files.writeString(copy.resolve("main/Example.java"), programs.get(0));
        String got = run(copy, "javac -d example Example.java src/main/java/AlmanacHouse.java\njava -cp example Example");
        Due.yes("the example prints what README.md says, not\n" + got, got.equals(printed.get(0)));
    }

    /** Each row of the table: a call of a new object, and the refusal that is due. */
    private static void refusals(String readme) throws ReflectiveOperationException {
        Matcher row = Pattern.compile("\\| `(\\w+)\\((.*?)\\)` \\| (\\w+) \\|").matcher(readme);
        Set<String> seen = new TreeSet<>();
        while (row.find()) {
            List<Object> numbers = new ArrayList<>();
            for (String number : row.group(2).isEmpty() ? new String[0] : row.group(2).split(", ")) {
                numbers.add(Integer.valueOf(number));
            }
            Class<?>[] types = numbers.stream().map(number -> int.class).toArray(Class<?>[]::new);
            Method call = AlmanacHouse.class.getMethod(row.group(1), types);
            int due = AlmanacHouse.class.getField(row.group(3)).getInt(null);
            Due.is(row.group(1) + "(" + row.group(2) + ") of README.md",
                (int) call.invoke(new AlmanacHouse(), numbers.toArray()), due);
            seen.add(row.group(3));
        }
        Due.yes("README.md shows refusals: " + seen, seen.containsAll(Set.of("BAD", "NONE", "OUTSIDE")));
    }

    private static void constants(String readme) throws ReflectiveOperationException {
        Matcher row = Pattern.compile("\\| `AlmanacHouse\\.(\\w+)` \\| (-\\d) \\|").matcher(readme);
        int rows = 0;
        while (row.find()) {
            rows++;
            Due.is(row.group(1), AlmanacHouse.class.getField(row.group(1)).getInt(null), Integer.parseInt(row.group(2)));
        }
        Due.is("constants of README.md", rows, 4);
    }

    /** All commands but .ci/run itself, of which this test is a part. */
    private static void commands(String readme, Path copy) throws IOException, InterruptedException {
        int ran = 0;
        for (String command : blocks(readme, "sh")) {
            if (command.equals(".ci/run\n")) {
                Due.yes(".ci/run can be run", Files.isExecutable(Path.of(".ci/run")));
            } else {
                run(copy, command);
                ran++;
            }
        }
        Due.yes("commands of README.md: " + ran, ran >= 2);
    }

    private static void tests(String readme) throws IOException {
        Set<String> told = new TreeSet<>();
        Matcher row = Pattern.compile("\\| `(\\w+Test)` \\|").matcher(readme);
        while (row.find()) {
            told.add(row.group(1));
        }
        Set<String> there;
        try (Stream<Path> files = Files.list(TESTS)) {
            there = files.map(file -> file.getFileName().toString()).filter(file -> file.endsWith("Test.java"))
                .map(file -> file.substring(0, file.length() - 5)).collect(Collectors.toCollection(TreeSet::new));
        }
        Due.yes("README.md tells of the tests " + there + ", not " + told, told.equals(there));
    }
}
